section
-- ===== PART A: goes FIRST, ahead of the names: the tables' words, and 'selects' of the private methods out of them =====
/-- a private method of a class that the tables say can be made, by its rows of tables_1 -/
def lw_okq (q : MethodName × Nat) : Prop := (q.1.cls ≠ "java/lang/invoke/MethodHandle" ∧ q.1.cls ≠ "java/lang/invoke/VarHandle") ∧ Cond.instantiable q.1.cls q.2 ∈ tables_1 ∧ Cond.privateMethod q.1 ∈ tables_1 ∧ Cond.instanceMethod q.1 ∈ tables_1
theorem lw_p0 : lw_okq (⟨"CallBoard", "functionAt", "(I)LCallBoard$Function;"⟩, 12) := ⟨⟨by decide +kernel, by decide +kernel⟩, List.mem_of_getElem? (i := 15) (by decide +kernel), List.mem_of_getElem? (i := 387) (by decide +kernel), List.mem_of_getElem? (i := 388) (by decide +kernel)⟩
theorem lw_p1 : lw_okq (⟨"CallBoard", "handlerAt", "(I)LCallBoard$Handler;"⟩, 12) := ⟨⟨by decide +kernel, by decide +kernel⟩, List.mem_of_getElem? (i := 15) (by decide +kernel), List.mem_of_getElem? (i := 447) (by decide +kernel), List.mem_of_getElem? (i := 448) (by decide +kernel)⟩
theorem lw_p2 : lw_okq (⟨"CallBoard$Handler", "isSameAt", "(ILCallBoard$Handler;)Z"⟩, 9) := ⟨⟨by decide +kernel, by decide +kernel⟩, List.mem_of_getElem? (i := 390) (by decide +kernel), List.mem_of_getElem? (i := 471) (by decide +kernel), List.mem_of_getElem? (i := 472) (by decide +kernel)⟩
theorem lw_p3 : lw_okq (⟨"CallBoard$Function", "compareLaid", "()V"⟩, 10) := ⟨⟨by decide +kernel, by decide +kernel⟩, List.mem_of_getElem? (i := 301) (by decide +kernel), List.mem_of_getElem? (i := 479) (by decide +kernel), List.mem_of_getElem? (i := 480) (by decide +kernel)⟩
theorem lw_p4 : lw_okq (⟨"CallBoard$Handler", "isNarrowerAt", "(ILCallBoard$Handler;)Z"⟩, 9) := ⟨⟨by decide +kernel, by decide +kernel⟩, List.mem_of_getElem? (i := 390) (by decide +kernel), List.mem_of_getElem? (i := 487) (by decide +kernel), List.mem_of_getElem? (i := 488) (by decide +kernel)⟩
theorem lw_p5 : lw_okq (⟨"CallBoard$Function", "putInOrder", "()V"⟩, 10) := ⟨⟨by decide +kernel, by decide +kernel⟩, List.mem_of_getElem? (i := 301) (by decide +kernel), List.mem_of_getElem? (i := 492) (by decide +kernel), List.mem_of_getElem? (i := 493) (by decide +kernel)⟩
theorem lw_p6 : lw_okq (⟨"CallBoard$Function", "beatenByAny", "(I)I"⟩, 10) := ⟨⟨by decide +kernel, by decide +kernel⟩, List.mem_of_getElem? (i := 301) (by decide +kernel), List.mem_of_getElem? (i := 496) (by decide +kernel), List.mem_of_getElem? (i := 497) (by decide +kernel)⟩
theorem lw_p7 : lw_okq (⟨"CallBoard", "readToldRow", "(LCallBoard$Function;)Z"⟩, 12) := ⟨⟨by decide +kernel, by decide +kernel⟩, List.mem_of_getElem? (i := 15) (by decide +kernel), List.mem_of_getElem? (i := 551) (by decide +kernel), List.mem_of_getElem? (i := 552) (by decide +kernel)⟩
theorem lw_p8 : lw_okq (⟨"CallBoard", "carryOut", "(LCallBoard$Function;)LCallBoard$Function;"⟩, 12) := ⟨⟨by decide +kernel, by decide +kernel⟩, List.mem_of_getElem? (i := 15) (by decide +kernel), List.mem_of_getElem? (i := 559) (by decide +kernel), List.mem_of_getElem? (i := 560) (by decide +kernel)⟩
theorem lw_p9 : lw_okq (⟨"CallBoard", "isBarred", "(LCallBoard$Function;)Z"⟩, 12) := ⟨⟨by decide +kernel, by decide +kernel⟩, List.mem_of_getElem? (i := 15) (by decide +kernel), List.mem_of_getElem? (i := 563) (by decide +kernel), List.mem_of_getElem? (i := 564) (by decide +kernel)⟩
theorem lw_p10 : lw_okq (⟨"CallBoard$Function", "pieceOf", "(II)J"⟩, 10) := ⟨⟨by decide +kernel, by decide +kernel⟩, List.mem_of_getElem? (i := 301) (by decide +kernel), List.mem_of_getElem? (i := 600) (by decide +kernel), List.mem_of_getElem? (i := 601) (by decide +kernel)⟩
theorem lw_p11 : lw_okq (⟨"CallBoard$Memory", "find", "(IJJ)I"⟩, 7) := ⟨⟨by decide +kernel, by decide +kernel⟩, List.mem_of_getElem? (i := 307) (by decide +kernel), List.mem_of_getElem? (i := 612) (by decide +kernel), List.mem_of_getElem? (i := 613) (by decide +kernel)⟩
theorem lw_p12 : lw_okq (⟨"CallBoard$Memory", "makeRoom", "()I"⟩, 7) := ⟨⟨by decide +kernel, by decide +kernel⟩, List.mem_of_getElem? (i := 307) (by decide +kernel), List.mem_of_getElem? (i := 616) (by decide +kernel), List.mem_of_getElem? (i := 617) (by decide +kernel)⟩
theorem lw_p13 : lw_okq (⟨"CallBoard", "runChosen", "(LCallBoard$Function;I)LCallBoard$Function;"⟩, 12) := ⟨⟨by decide +kernel, by decide +kernel⟩, List.mem_of_getElem? (i := 15) (by decide +kernel), List.mem_of_getElem? (i := 625) (by decide +kernel), List.mem_of_getElem? (i := 626) (by decide +kernel)⟩
theorem lw_p14 : lw_okq (⟨"CallBoard", "act", "(LCallBoard$Handler;)LCallBoard$Function;"⟩, 12) := ⟨⟨by decide +kernel, by decide +kernel⟩, List.mem_of_getElem? (i := 15) (by decide +kernel), List.mem_of_getElem? (i := 633) (by decide +kernel), List.mem_of_getElem? (i := 634) (by decide +kernel)⟩
theorem lw_p15 : lw_okq (⟨"CallBoard", "countUp", "(I)I"⟩, 12) := ⟨⟨by decide +kernel, by decide +kernel⟩, List.mem_of_getElem? (i := 15) (by decide +kernel), List.mem_of_getElem? (i := 648) (by decide +kernel), List.mem_of_getElem? (i := 649) (by decide +kernel)⟩
def lw_privs_1 : List (MethodName × Nat) := [(⟨"CallBoard", "functionAt", "(I)LCallBoard$Function;"⟩, 12), (⟨"CallBoard", "handlerAt", "(I)LCallBoard$Handler;"⟩, 12), (⟨"CallBoard$Handler", "isSameAt", "(ILCallBoard$Handler;)Z"⟩, 9), (⟨"CallBoard$Function", "compareLaid", "()V"⟩, 10), (⟨"CallBoard$Handler", "isNarrowerAt", "(ILCallBoard$Handler;)Z"⟩, 9), (⟨"CallBoard$Function", "putInOrder", "()V"⟩, 10), (⟨"CallBoard$Function", "beatenByAny", "(I)I"⟩, 10), (⟨"CallBoard", "readToldRow", "(LCallBoard$Function;)Z"⟩, 12), (⟨"CallBoard", "carryOut", "(LCallBoard$Function;)LCallBoard$Function;"⟩, 12), (⟨"CallBoard", "isBarred", "(LCallBoard$Function;)Z"⟩, 12), (⟨"CallBoard$Function", "pieceOf", "(II)J"⟩, 10), (⟨"CallBoard$Memory", "find", "(IJJ)I"⟩, 7), (⟨"CallBoard$Memory", "makeRoom", "()I"⟩, 7), (⟨"CallBoard", "runChosen", "(LCallBoard$Function;I)LCallBoard$Function;"⟩, 12), (⟨"CallBoard", "act", "(LCallBoard$Handler;)LCallBoard$Function;"⟩, 12), (⟨"CallBoard", "countUp", "(I)I"⟩, 12)]
theorem lw_r1 : ∀ q ∈ lw_privs_1, lw_okq q := List.forall_mem_cons.mpr ⟨lw_p0, List.forall_mem_cons.mpr ⟨lw_p1, List.forall_mem_cons.mpr ⟨lw_p2, List.forall_mem_cons.mpr ⟨lw_p3, List.forall_mem_cons.mpr ⟨lw_p4, List.forall_mem_cons.mpr ⟨lw_p5, List.forall_mem_cons.mpr ⟨lw_p6, List.forall_mem_cons.mpr ⟨lw_p7, List.forall_mem_cons.mpr ⟨lw_p8, List.forall_mem_cons.mpr ⟨lw_p9, List.forall_mem_cons.mpr ⟨lw_p10, List.forall_mem_cons.mpr ⟨lw_p11, List.forall_mem_cons.mpr ⟨lw_p12, List.forall_mem_cons.mpr ⟨lw_p13, List.forall_mem_cons.mpr ⟨lw_p14, List.forall_mem_cons.mpr ⟨lw_p15, fun _ h => absurd h List.not_mem_nil⟩⟩⟩⟩⟩⟩⟩⟩⟩⟩⟩⟩⟩⟩⟩⟩
theorem lw_p16 : lw_okq (⟨"CallBoard", "bringSample", "(I)V"⟩, 12) := ⟨⟨by decide +kernel, by decide +kernel⟩, List.mem_of_getElem? (i := 15) (by decide +kernel), List.mem_of_getElem? (i := 652) (by decide +kernel), List.mem_of_getElem? (i := 653) (by decide +kernel)⟩
theorem lw_p17 : lw_okq (⟨"CallBoard", "calledWithin", "(LCallBoard$Handler;)LCallBoard$Function;"⟩, 12) := ⟨⟨by decide +kernel, by decide +kernel⟩, List.mem_of_getElem? (i := 15) (by decide +kernel), List.mem_of_getElem? (i := 656) (by decide +kernel), List.mem_of_getElem? (i := 657) (by decide +kernel)⟩
theorem lw_p18 : lw_okq (⟨"CallBoard", "explainAmongTakers", "(LCallBoard$Handler;)I"⟩, 12) := ⟨⟨by decide +kernel, by decide +kernel⟩, List.mem_of_getElem? (i := 15) (by decide +kernel), List.mem_of_getElem? (i := 703) (by decide +kernel), List.mem_of_getElem? (i := 704) (by decide +kernel)⟩
theorem lw_p19 : lw_okq (⟨"CallBoard", "countOfAll", "(I)I"⟩, 12) := ⟨⟨by decide +kernel, by decide +kernel⟩, List.mem_of_getElem? (i := 15) (by decide +kernel), List.mem_of_getElem? (i := 723) (by decide +kernel), List.mem_of_getElem? (i := 724) (by decide +kernel)⟩
theorem lw_p20 : lw_okq (⟨"CallBoard$Proof", "fillCells", "(LCallBoard$Function;)V"⟩, 6) := ⟨⟨by decide +kernel, by decide +kernel⟩, List.mem_of_getElem? (i := 129) (by decide +kernel), List.mem_of_getElem? (i := 735) (by decide +kernel), List.mem_of_getElem? (i := 736) (by decide +kernel)⟩
theorem lw_p21 : lw_okq (⟨"CallBoard$Cells", "addNew", "(III)V"⟩, 7) := ⟨⟨by decide +kernel, by decide +kernel⟩, List.mem_of_getElem? (i := 135) (by decide +kernel), List.mem_of_getElem? (i := 744) (by decide +kernel), List.mem_of_getElem? (i := 745) (by decide +kernel)⟩
theorem lw_p22 : lw_okq (⟨"CallBoard$Cells", "findStarts", "(LCallBoard$Function;I)V"⟩, 7) := ⟨⟨by decide +kernel, by decide +kernel⟩, List.mem_of_getElem? (i := 135) (by decide +kernel), List.mem_of_getElem? (i := 748) (by decide +kernel), List.mem_of_getElem? (i := 749) (by decide +kernel)⟩
theorem lw_p23 : lw_okq (⟨"CallBoard$Cells", "addStart", "(I)V"⟩, 7) := ⟨⟨by decide +kernel, by decide +kernel⟩, List.mem_of_getElem? (i := 135) (by decide +kernel), List.mem_of_getElem? (i := 753) (by decide +kernel), List.mem_of_getElem? (i := 754) (by decide +kernel)⟩
theorem lw_p24 : lw_okq (⟨"CallBoard$Cells", "addClass", "(II)V"⟩, 7) := ⟨⟨by decide +kernel, by decide +kernel⟩, List.mem_of_getElem? (i := 135) (by decide +kernel), List.mem_of_getElem? (i := 762) (by decide +kernel), List.mem_of_getElem? (i := 763) (by decide +kernel)⟩
theorem lw_p25 : lw_okq (⟨"CallBoard$Proof", "foundAt", "(II)Z"⟩, 6) := ⟨⟨by decide +kernel, by decide +kernel⟩, List.mem_of_getElem? (i := 129) (by decide +kernel), List.mem_of_getElem? (i := 767) (by decide +kernel), List.mem_of_getElem? (i := 768) (by decide +kernel)⟩
theorem lw_p26 : lw_okq (⟨"CallBoard$Proof", "haveDoubt", "(LCallBoard$Function;II)Z"⟩, 6) := ⟨⟨by decide +kernel, by decide +kernel⟩, List.mem_of_getElem? (i := 129) (by decide +kernel), List.mem_of_getElem? (i := 788) (by decide +kernel), List.mem_of_getElem? (i := 789) (by decide +kernel)⟩
theorem lw_p27 : lw_okq (⟨"CallBoardModel", "add", "(II)I"⟩, 39) := ⟨⟨by decide +kernel, by decide +kernel⟩, List.mem_of_getElem? (i := 794) (by decide +kernel), List.mem_of_getElem? (i := 933) (by decide +kernel), List.mem_of_getElem? (i := 934) (by decide +kernel)⟩
theorem lw_p28 : lw_okq (⟨"CallBoardModel", "isBelow", "(II)Z"⟩, 39) := ⟨⟨by decide +kernel, by decide +kernel⟩, List.mem_of_getElem? (i := 794) (by decide +kernel), List.mem_of_getElem? (i := 953) (by decide +kernel), List.mem_of_getElem? (i := 954) (by decide +kernel)⟩
theorem lw_p29 : lw_okq (⟨"CallBoardModel", "isFunction", "(I)Z"⟩, 39) := ⟨⟨by decide +kernel, by decide +kernel⟩, List.mem_of_getElem? (i := 794) (by decide +kernel), List.mem_of_getElem? (i := 977) (by decide +kernel), List.mem_of_getElem? (i := 978) (by decide +kernel)⟩
theorem lw_p30 : lw_okq (⟨"CallBoardModel", "hasPlace", "(II)Z"⟩, 39) := ⟨⟨by decide +kernel, by decide +kernel⟩, List.mem_of_getElem? (i := 794) (by decide +kernel), List.mem_of_getElem? (i := 987) (by decide +kernel), List.mem_of_getElem? (i := 988) (by decide +kernel)⟩
theorem lw_p31 : lw_okq (⟨"CallBoardModel", "isHandler", "(I)Z"⟩, 39) := ⟨⟨by decide +kernel, by decide +kernel⟩, List.mem_of_getElem? (i := 794) (by decide +kernel), List.mem_of_getElem? (i := 991) (by decide +kernel), List.mem_of_getElem? (i := 992) (by decide +kernel)⟩
def lw_privs_2 : List (MethodName × Nat) := [(⟨"CallBoard", "bringSample", "(I)V"⟩, 12), (⟨"CallBoard", "calledWithin", "(LCallBoard$Handler;)LCallBoard$Function;"⟩, 12), (⟨"CallBoard", "explainAmongTakers", "(LCallBoard$Handler;)I"⟩, 12), (⟨"CallBoard", "countOfAll", "(I)I"⟩, 12), (⟨"CallBoard$Proof", "fillCells", "(LCallBoard$Function;)V"⟩, 6), (⟨"CallBoard$Cells", "addNew", "(III)V"⟩, 7), (⟨"CallBoard$Cells", "findStarts", "(LCallBoard$Function;I)V"⟩, 7), (⟨"CallBoard$Cells", "addStart", "(I)V"⟩, 7), (⟨"CallBoard$Cells", "addClass", "(II)V"⟩, 7), (⟨"CallBoard$Proof", "foundAt", "(II)Z"⟩, 6), (⟨"CallBoard$Proof", "haveDoubt", "(LCallBoard$Function;II)Z"⟩, 6), (⟨"CallBoardModel", "add", "(II)I"⟩, 39), (⟨"CallBoardModel", "isBelow", "(II)Z"⟩, 39), (⟨"CallBoardModel", "isFunction", "(I)Z"⟩, 39), (⟨"CallBoardModel", "hasPlace", "(II)Z"⟩, 39), (⟨"CallBoardModel", "isHandler", "(I)Z"⟩, 39)]
theorem lw_r2 : ∀ q ∈ lw_privs_2, lw_okq q := List.forall_mem_cons.mpr ⟨lw_p16, List.forall_mem_cons.mpr ⟨lw_p17, List.forall_mem_cons.mpr ⟨lw_p18, List.forall_mem_cons.mpr ⟨lw_p19, List.forall_mem_cons.mpr ⟨lw_p20, List.forall_mem_cons.mpr ⟨lw_p21, List.forall_mem_cons.mpr ⟨lw_p22, List.forall_mem_cons.mpr ⟨lw_p23, List.forall_mem_cons.mpr ⟨lw_p24, List.forall_mem_cons.mpr ⟨lw_p25, List.forall_mem_cons.mpr ⟨lw_p26, List.forall_mem_cons.mpr ⟨lw_p27, List.forall_mem_cons.mpr ⟨lw_p28, List.forall_mem_cons.mpr ⟨lw_p29, List.forall_mem_cons.mpr ⟨lw_p30, List.forall_mem_cons.mpr ⟨lw_p31, fun _ h => absurd h List.not_mem_nil⟩⟩⟩⟩⟩⟩⟩⟩⟩⟩⟩⟩⟩⟩⟩⟩
theorem lw_p32 : lw_okq (⟨"CallBoardModel", "isLaid", "(II)Z"⟩, 39) := ⟨⟨by decide +kernel, by decide +kernel⟩, List.mem_of_getElem? (i := 794) (by decide +kernel), List.mem_of_getElem? (i := 1003) (by decide +kernel), List.mem_of_getElem? (i := 1004) (by decide +kernel)⟩
theorem lw_p33 : lw_okq (⟨"CallBoardModel", "areSame", "(III)Z"⟩, 39) := ⟨⟨by decide +kernel, by decide +kernel⟩, List.mem_of_getElem? (i := 794) (by decide +kernel), List.mem_of_getElem? (i := 1007) (by decide +kernel), List.mem_of_getElem? (i := 1008) (by decide +kernel)⟩
theorem lw_p34 : lw_okq (⟨"CallBoardModel", "laid", "(I)I"⟩, 39) := ⟨⟨by decide +kernel, by decide +kernel⟩, List.mem_of_getElem? (i := 794) (by decide +kernel), List.mem_of_getElem? (i := 1011) (by decide +kernel), List.mem_of_getElem? (i := 1012) (by decide +kernel)⟩
theorem lw_p35 : lw_okq (⟨"CallBoardModel", "isMore", "(II)Z"⟩, 39) := ⟨⟨by decide +kernel, by decide +kernel⟩, List.mem_of_getElem? (i := 794) (by decide +kernel), List.mem_of_getElem? (i := 1031) (by decide +kernel), List.mem_of_getElem? (i := 1032) (by decide +kernel)⟩
theorem lw_p36 : lw_okq (⟨"CallBoardModel", "isNarrower", "(III)Z"⟩, 39) := ⟨⟨by decide +kernel, by decide +kernel⟩, List.mem_of_getElem? (i := 794) (by decide +kernel), List.mem_of_getElem? (i := 1035) (by decide +kernel), List.mem_of_getElem? (i := 1036) (by decide +kernel)⟩
theorem lw_p37 : lw_okq (⟨"CallBoardModel", "inOrder", "(II)I"⟩, 39) := ⟨⟨by decide +kernel, by decide +kernel⟩, List.mem_of_getElem? (i := 794) (by decide +kernel), List.mem_of_getElem? (i := 1043) (by decide +kernel), List.mem_of_getElem? (i := 1044) (by decide +kernel)⟩
theorem lw_p38 : lw_okq (⟨"CallBoardModel", "tellRow", "(I)Z"⟩, 39) := ⟨⟨by decide +kernel, by decide +kernel⟩, List.mem_of_getElem? (i := 794) (by decide +kernel), List.mem_of_getElem? (i := 1055) (by decide +kernel), List.mem_of_getElem? (i := 1056) (by decide +kernel)⟩
theorem lw_p39 : lw_okq (⟨"CallBoardModel", "begin", "(I)I"⟩, 39) := ⟨⟨by decide +kernel, by decide +kernel⟩, List.mem_of_getElem? (i := 794) (by decide +kernel), List.mem_of_getElem? (i := 1059) (by decide +kernel), List.mem_of_getElem? (i := 1060) (by decide +kernel)⟩
theorem lw_p40 : lw_okq (⟨"CallBoardModel", "isBarred", "(I)Z"⟩, 39) := ⟨⟨by decide +kernel, by decide +kernel⟩, List.mem_of_getElem? (i := 794) (by decide +kernel), List.mem_of_getElem? (i := 1063) (by decide +kernel), List.mem_of_getElem? (i := 1064) (by decide +kernel)⟩
theorem lw_p41 : lw_okq (⟨"CallBoardModel", "takes", "(I)Z"⟩, 39) := ⟨⟨by decide +kernel, by decide +kernel⟩, List.mem_of_getElem? (i := 794) (by decide +kernel), List.mem_of_getElem? (i := 1067) (by decide +kernel), List.mem_of_getElem? (i := 1068) (by decide +kernel)⟩
theorem lw_p42 : lw_okq (⟨"CallBoardModel", "takesAt", "(II)Z"⟩, 39) := ⟨⟨by decide +kernel, by decide +kernel⟩, List.mem_of_getElem? (i := 794) (by decide +kernel), List.mem_of_getElem? (i := 1071) (by decide +kernel), List.mem_of_getElem? (i := 1072) (by decide +kernel)⟩
theorem lw_p43 : lw_okq (⟨"CallBoardModel", "note", "(I)V"⟩, 39) := ⟨⟨by decide +kernel, by decide +kernel⟩, List.mem_of_getElem? (i := 794) (by decide +kernel), List.mem_of_getElem? (i := 1075) (by decide +kernel), List.mem_of_getElem? (i := 1076) (by decide +kernel)⟩
theorem lw_p44 : lw_okq (⟨"CallBoardModel", "weight", "(I)J"⟩, 39) := ⟨⟨by decide +kernel, by decide +kernel⟩, List.mem_of_getElem? (i := 794) (by decide +kernel), List.mem_of_getElem? (i := 1079) (by decide +kernel), List.mem_of_getElem? (i := 1080) (by decide +kernel)⟩
theorem lw_p45 : lw_okq (⟨"CallBoardModel", "remember", "(I)V"⟩, 39) := ⟨⟨by decide +kernel, by decide +kernel⟩, List.mem_of_getElem? (i := 794) (by decide +kernel), List.mem_of_getElem? (i := 1083) (by decide +kernel), List.mem_of_getElem? (i := 1084) (by decide +kernel)⟩
theorem lw_p46 : lw_okq (⟨"CallBoardModel", "piece", "(II)J"⟩, 39) := ⟨⟨by decide +kernel, by decide +kernel⟩, List.mem_of_getElem? (i := 794) (by decide +kernel), List.mem_of_getElem? (i := 1087) (by decide +kernel), List.mem_of_getElem? (i := 1088) (by decide +kernel)⟩
theorem lw_p47 : lw_okq (⟨"CallBoardModel", "choose", "(II)I"⟩, 39) := ⟨⟨by decide +kernel, by decide +kernel⟩, List.mem_of_getElem? (i := 794) (by decide +kernel), List.mem_of_getElem? (i := 1092) (by decide +kernel), List.mem_of_getElem? (i := 1093) (by decide +kernel)⟩
def lw_privs_3 : List (MethodName × Nat) := [(⟨"CallBoardModel", "isLaid", "(II)Z"⟩, 39), (⟨"CallBoardModel", "areSame", "(III)Z"⟩, 39), (⟨"CallBoardModel", "laid", "(I)I"⟩, 39), (⟨"CallBoardModel", "isMore", "(II)Z"⟩, 39), (⟨"CallBoardModel", "isNarrower", "(III)Z"⟩, 39), (⟨"CallBoardModel", "inOrder", "(II)I"⟩, 39), (⟨"CallBoardModel", "tellRow", "(I)Z"⟩, 39), (⟨"CallBoardModel", "begin", "(I)I"⟩, 39), (⟨"CallBoardModel", "isBarred", "(I)Z"⟩, 39), (⟨"CallBoardModel", "takes", "(I)Z"⟩, 39), (⟨"CallBoardModel", "takesAt", "(II)Z"⟩, 39), (⟨"CallBoardModel", "note", "(I)V"⟩, 39), (⟨"CallBoardModel", "weight", "(I)J"⟩, 39), (⟨"CallBoardModel", "remember", "(I)V"⟩, 39), (⟨"CallBoardModel", "piece", "(II)J"⟩, 39), (⟨"CallBoardModel", "choose", "(II)I"⟩, 39)]
theorem lw_r3 : ∀ q ∈ lw_privs_3, lw_okq q := List.forall_mem_cons.mpr ⟨lw_p32, List.forall_mem_cons.mpr ⟨lw_p33, List.forall_mem_cons.mpr ⟨lw_p34, List.forall_mem_cons.mpr ⟨lw_p35, List.forall_mem_cons.mpr ⟨lw_p36, List.forall_mem_cons.mpr ⟨lw_p37, List.forall_mem_cons.mpr ⟨lw_p38, List.forall_mem_cons.mpr ⟨lw_p39, List.forall_mem_cons.mpr ⟨lw_p40, List.forall_mem_cons.mpr ⟨lw_p41, List.forall_mem_cons.mpr ⟨lw_p42, List.forall_mem_cons.mpr ⟨lw_p43, List.forall_mem_cons.mpr ⟨lw_p44, List.forall_mem_cons.mpr ⟨lw_p45, List.forall_mem_cons.mpr ⟨lw_p46, List.forall_mem_cons.mpr ⟨lw_p47, fun _ h => absurd h List.not_mem_nil⟩⟩⟩⟩⟩⟩⟩⟩⟩⟩⟩⟩⟩⟩⟩⟩
theorem lw_p48 : lw_okq (⟨"CallBoardModel", "offered", "(II)I"⟩, 39) := ⟨⟨by decide +kernel, by decide +kernel⟩, List.mem_of_getElem? (i := 794) (by decide +kernel), List.mem_of_getElem? (i := 1096) (by decide +kernel), List.mem_of_getElem? (i := 1097) (by decide +kernel)⟩
theorem lw_p49 : lw_okq (⟨"CallBoardModel", "isOffered", "(III)Z"⟩, 39) := ⟨⟨by decide +kernel, by decide +kernel⟩, List.mem_of_getElem? (i := 794) (by decide +kernel), List.mem_of_getElem? (i := 1100) (by decide +kernel), List.mem_of_getElem? (i := 1101) (by decide +kernel)⟩
theorem lw_p50 : lw_okq (⟨"CallBoardModel", "chosen", "(II)I"⟩, 39) := ⟨⟨by decide +kernel, by decide +kernel⟩, List.mem_of_getElem? (i := 794) (by decide +kernel), List.mem_of_getElem? (i := 1104) (by decide +kernel), List.mem_of_getElem? (i := 1105) (by decide +kernel)⟩
theorem lw_p51 : lw_okq (⟨"CallBoardModel", "run", "(II)I"⟩, 39) := ⟨⟨by decide +kernel, by decide +kernel⟩, List.mem_of_getElem? (i := 794) (by decide +kernel), List.mem_of_getElem? (i := 1108) (by decide +kernel), List.mem_of_getElem? (i := 1109) (by decide +kernel)⟩
theorem lw_p52 : lw_okq (⟨"CallBoardModel", "end", "(J)I"⟩, 39) := ⟨⟨by decide +kernel, by decide +kernel⟩, List.mem_of_getElem? (i := 794) (by decide +kernel), List.mem_of_getElem? (i := 1112) (by decide +kernel), List.mem_of_getElem? (i := 1113) (by decide +kernel)⟩
theorem lw_p53 : lw_okq (⟨"CallBoardModel", "fail", "(I)I"⟩, 39) := ⟨⟨by decide +kernel, by decide +kernel⟩, List.mem_of_getElem? (i := 794) (by decide +kernel), List.mem_of_getElem? (i := 1116) (by decide +kernel), List.mem_of_getElem? (i := 1117) (by decide +kernel)⟩
theorem lw_p54 : lw_okq (⟨"CallBoardModel", "grow", "(I)I"⟩, 39) := ⟨⟨by decide +kernel, by decide +kernel⟩, List.mem_of_getElem? (i := 794) (by decide +kernel), List.mem_of_getElem? (i := 1123) (by decide +kernel), List.mem_of_getElem? (i := 1124) (by decide +kernel)⟩
theorem lw_p55 : lw_okq (⟨"CallBoardModel", "callOn", "(II)I"⟩, 39) := ⟨⟨by decide +kernel, by decide +kernel⟩, List.mem_of_getElem? (i := 794) (by decide +kernel), List.mem_of_getElem? (i := 1127) (by decide +kernel), List.mem_of_getElem? (i := 1128) (by decide +kernel)⟩
theorem lw_p56 : lw_okq (⟨"CallBoardModel", "turn", "()V"⟩, 39) := ⟨⟨by decide +kernel, by decide +kernel⟩, List.mem_of_getElem? (i := 794) (by decide +kernel), List.mem_of_getElem? (i := 1131) (by decide +kernel), List.mem_of_getElem? (i := 1132) (by decide +kernel)⟩
theorem lw_p57 : lw_okq (⟨"CallBoardModel", "moreThan", "(II)I"⟩, 39) := ⟨⟨by decide +kernel, by decide +kernel⟩, List.mem_of_getElem? (i := 794) (by decide +kernel), List.mem_of_getElem? (i := 1163) (by decide +kernel), List.mem_of_getElem? (i := 1164) (by decide +kernel)⟩
theorem lw_p58 : lw_okq (⟨"CallBoardModel", "countAll", "(I)I"⟩, 39) := ⟨⟨by decide +kernel, by decide +kernel⟩, List.mem_of_getElem? (i := 794) (by decide +kernel), List.mem_of_getElem? (i := 1175) (by decide +kernel), List.mem_of_getElem? (i := 1176) (by decide +kernel)⟩
theorem lw_p59 : lw_okq (⟨"CallBoardModel", "findHole", "(I)Z"⟩, 39) := ⟨⟨by decide +kernel, by decide +kernel⟩, List.mem_of_getElem? (i := 794) (by decide +kernel), List.mem_of_getElem? (i := 1183) (by decide +kernel), List.mem_of_getElem? (i := 1184) (by decide +kernel)⟩
theorem lw_p60 : lw_okq (⟨"CallBoardModel", "firstTuple", "(I)Z"⟩, 39) := ⟨⟨by decide +kernel, by decide +kernel⟩, List.mem_of_getElem? (i := 794) (by decide +kernel), List.mem_of_getElem? (i := 1187) (by decide +kernel), List.mem_of_getElem? (i := 1188) (by decide +kernel)⟩
theorem lw_p61 : lw_okq (⟨"CallBoardModel", "nextClass", "(I)I"⟩, 39) := ⟨⟨by decide +kernel, by decide +kernel⟩, List.mem_of_getElem? (i := 794) (by decide +kernel), List.mem_of_getElem? (i := 1191) (by decide +kernel), List.mem_of_getElem? (i := 1192) (by decide +kernel)⟩
theorem lw_p62 : lw_okq (⟨"CallBoardModel", "findEdges", "(II)V"⟩, 39) := ⟨⟨by decide +kernel, by decide +kernel⟩, List.mem_of_getElem? (i := 794) (by decide +kernel), List.mem_of_getElem? (i := 1196) (by decide +kernel), List.mem_of_getElem? (i := 1197) (by decide +kernel)⟩
theorem lw_p63 : lw_okq (⟨"CallBoardModel", "nextTuple", "(I)Z"⟩, 39) := ⟨⟨by decide +kernel, by decide +kernel⟩, List.mem_of_getElem? (i := 794) (by decide +kernel), List.mem_of_getElem? (i := 1200) (by decide +kernel), List.mem_of_getElem? (i := 1201) (by decide +kernel)⟩
def lw_privs_4 : List (MethodName × Nat) := [(⟨"CallBoardModel", "offered", "(II)I"⟩, 39), (⟨"CallBoardModel", "isOffered", "(III)Z"⟩, 39), (⟨"CallBoardModel", "chosen", "(II)I"⟩, 39), (⟨"CallBoardModel", "run", "(II)I"⟩, 39), (⟨"CallBoardModel", "end", "(J)I"⟩, 39), (⟨"CallBoardModel", "fail", "(I)I"⟩, 39), (⟨"CallBoardModel", "grow", "(I)I"⟩, 39), (⟨"CallBoardModel", "callOn", "(II)I"⟩, 39), (⟨"CallBoardModel", "turn", "()V"⟩, 39), (⟨"CallBoardModel", "moreThan", "(II)I"⟩, 39), (⟨"CallBoardModel", "countAll", "(I)I"⟩, 39), (⟨"CallBoardModel", "findHole", "(I)Z"⟩, 39), (⟨"CallBoardModel", "firstTuple", "(I)Z"⟩, 39), (⟨"CallBoardModel", "nextClass", "(I)I"⟩, 39), (⟨"CallBoardModel", "findEdges", "(II)V"⟩, 39), (⟨"CallBoardModel", "nextTuple", "(I)Z"⟩, 39)]
theorem lw_r4 : ∀ q ∈ lw_privs_4, lw_okq q := List.forall_mem_cons.mpr ⟨lw_p48, List.forall_mem_cons.mpr ⟨lw_p49, List.forall_mem_cons.mpr ⟨lw_p50, List.forall_mem_cons.mpr ⟨lw_p51, List.forall_mem_cons.mpr ⟨lw_p52, List.forall_mem_cons.mpr ⟨lw_p53, List.forall_mem_cons.mpr ⟨lw_p54, List.forall_mem_cons.mpr ⟨lw_p55, List.forall_mem_cons.mpr ⟨lw_p56, List.forall_mem_cons.mpr ⟨lw_p57, List.forall_mem_cons.mpr ⟨lw_p58, List.forall_mem_cons.mpr ⟨lw_p59, List.forall_mem_cons.mpr ⟨lw_p60, List.forall_mem_cons.mpr ⟨lw_p61, List.forall_mem_cons.mpr ⟨lw_p62, List.forall_mem_cons.mpr ⟨lw_p63, fun _ h => absurd h List.not_mem_nil⟩⟩⟩⟩⟩⟩⟩⟩⟩⟩⟩⟩⟩⟩⟩⟩
theorem lw_p64 : lw_okq (⟨"CallBoardModel", "nextAt", "(II)Z"⟩, 39) := ⟨⟨by decide +kernel, by decide +kernel⟩, List.mem_of_getElem? (i := 794) (by decide +kernel), List.mem_of_getElem? (i := 1204) (by decide +kernel), List.mem_of_getElem? (i := 1205) (by decide +kernel)⟩
theorem lw_p65 : lw_okq (⟨"CallBoardModel", "keepTuple", "(I)V"⟩, 39) := ⟨⟨by decide +kernel, by decide +kernel⟩, List.mem_of_getElem? (i := 794) (by decide +kernel), List.mem_of_getElem? (i := 1208) (by decide +kernel), List.mem_of_getElem? (i := 1209) (by decide +kernel)⟩
theorem lw_p66 : lw_okq (⟨"CallBoardModel", "findDoubt", "(III)Z"⟩, 39) := ⟨⟨by decide +kernel, by decide +kernel⟩, List.mem_of_getElem? (i := 794) (by decide +kernel), List.mem_of_getElem? (i := 1221) (by decide +kernel), List.mem_of_getElem? (i := 1222) (by decide +kernel)⟩
theorem lw_p67 : lw_okq (⟨"CallBoardModel", "areInDoubt", "(III)Z"⟩, 39) := ⟨⟨by decide +kernel, by decide +kernel⟩, List.mem_of_getElem? (i := 794) (by decide +kernel), List.mem_of_getElem? (i := 1225) (by decide +kernel), List.mem_of_getElem? (i := 1226) (by decide +kernel)⟩
def lw_privs_5 : List (MethodName × Nat) := [(⟨"CallBoardModel", "nextAt", "(II)Z"⟩, 39), (⟨"CallBoardModel", "keepTuple", "(I)V"⟩, 39), (⟨"CallBoardModel", "findDoubt", "(III)Z"⟩, 39), (⟨"CallBoardModel", "areInDoubt", "(III)Z"⟩, 39)]
theorem lw_r5 : ∀ q ∈ lw_privs_5, lw_okq q := List.forall_mem_cons.mpr ⟨lw_p64, List.forall_mem_cons.mpr ⟨lw_p65, List.forall_mem_cons.mpr ⟨lw_p66, List.forall_mem_cons.mpr ⟨lw_p67, fun _ h => absurd h List.not_mem_nil⟩⟩⟩⟩
def lw_privs : List (MethodName × Nat) := lw_privs_1 ++ (lw_privs_2 ++ (lw_privs_3 ++ (lw_privs_4 ++ (lw_privs_5))))
def lw_tbl : List Cond := k2_sels lw_privs ++ tables_1
theorem lw_privs_ok : ∀ q ∈ lw_privs, lw_okq q := by
  show ∀ q ∈ lw_privs_1 ++ (lw_privs_2 ++ (lw_privs_3 ++ (lw_privs_4 ++ (lw_privs_5)))), lw_okq q
  exact List.forall_mem_append.mpr ⟨lw_r1, List.forall_mem_append.mpr ⟨lw_r2, List.forall_mem_append.mpr ⟨lw_r3, List.forall_mem_append.mpr ⟨lw_r4, lw_r5⟩⟩⟩⟩
-- ===== end of PART A; then your names; then what follows =====
end
section
/-! ===== names, fields, methods (printed), and one list of words for all ===== -/

/-! ===== BEGIN printed: names, fields, word lists, decode rows ===== -/
def RX0 : String := "CallBoard$Cells"
def TX0 : u_T := fun k => match k with
  | 0 => ("CallBoard$Cells", "classes", "[I", true)
  | 1 => ("CallBoard$Cells", "weights", "[I", true)
  | 2 => ("CallBoard$Cells", "takers", "[I", true)
  | 3 => ("CallBoard$Cells", "size", "I", false)
  | 4 => ("CallBoard$Cells", "starts", "[I", true)
  | 5 => ("CallBoard$Cells", "startTakers", "[I", true)
  | _ => ("CallBoard$Cells", "startCount", "I", false)
def tyX0 : Nat → FieldType := fun k => match k with
  | 0 => .array .int
  | 1 => .array .int
  | 2 => .array .int
  | 3 => .int
  | 4 => .array .int
  | 5 => .array .int
  | _ => .int
abbrev wsX00 : List Cond := u_ws RX0 TX0 7
theorem nmX0 : ∀ a, a < 7 → ∀ b, b < 7 → a ≠ b → (TX0 a).2.1 ≠ (TX0 b).2.1 := by decide +kernel
theorem tyX0_ok : ∀ k, k < 7 → parseFieldDescriptor (TX0 k).2.2.1 = some (tyX0 k) := by decide +kernel
abbrev cX0_init : ByteArray := prog_2_method_1_code
def yX0_init : MethodName := ⟨RX0, "<init>", "()V"⟩
abbrev cX0_fill : ByteArray := prog_2_method_2_code
def yX0_fill : MethodName := ⟨RX0, "fill", "(LCallBoard$Function;I)V"⟩
abbrev cX0_addClass : ByteArray := prog_2_method_3_code
def yX0_addClass : MethodName := ⟨RX0, "addClass", "(II)V"⟩
abbrev cX0_addNew : ByteArray := prog_2_method_4_code
def yX0_addNew : MethodName := ⟨RX0, "addNew", "(III)V"⟩
abbrev cX0_findStarts : ByteArray := prog_2_method_5_code
def yX0_findStarts : MethodName := ⟨RX0, "findStarts", "(LCallBoard$Function;I)V"⟩
abbrev cX0_addStart : ByteArray := prog_2_method_6_code
def yX0_addStart : MethodName := ⟨RX0, "addStart", "(I)V"⟩
def RX1 : String := "CallBoard$Function"
def TX1 : u_T := fun k => match k with
  | 0 => ("CallBoard$Function", "table", "LCallBoard$Table;", true)
  | 1 => ("CallBoard$Function", "number", "I", true)
  | 2 => ("CallBoard$Function", "places", "I", true)
  | 3 => ("CallBoard$Function", "memory", "LCallBoard$Memory;", true)
  | 4 => ("CallBoard$Function", "ordered", "[I", true)
  | 5 => ("CallBoard$Function", "laid", "[LCallBoard$Handler;", true)
  | 6 => ("CallBoard$Function", "beaten", "[I", true)
  | 7 => ("CallBoard$Function", "laidCount", "I", false)
  | 8 => ("CallBoard$Function", "plain", "I", false)
  | _ => ("CallBoard$Function", "frozen", "Z", false)
def tyX1 : Nat → FieldType := fun k => match k with
  | 0 => .object "CallBoard$Table"
  | 1 => .int
  | 2 => .int
  | 3 => .object "CallBoard$Memory"
  | 4 => .array .int
  | 5 => .array (.object "CallBoard$Handler")
  | 6 => .array .int
  | 7 => .int
  | 8 => .int
  | _ => .boolean
abbrev wsX10 : List Cond := u_ws RX1 TX1 10
theorem nmX1 : ∀ a, a < 10 → ∀ b, b < 10 → a ≠ b → (TX1 a).2.1 ≠ (TX1 b).2.1 := by decide +kernel
theorem tyX1_ok : ∀ k, k < 10 → parseFieldDescriptor (TX1 k).2.2.1 = some (tyX1 k) := by decide +kernel
abbrev cX1_init : ByteArray := prog_3_method_1_code
def yX1_init : MethodName := ⟨RX1, "<init>", "(LCallBoard$Table;II)V"⟩
abbrev cX1_hasPlace : ByteArray := prog_3_method_2_code
def yX1_hasPlace : MethodName := ⟨RX1, "hasPlace", "(I)Z"⟩
abbrev cX1_laidAt : ByteArray := prog_3_method_3_code
def yX1_laidAt : MethodName := ⟨RX1, "laidAt", "(I)LCallBoard$Handler;"⟩
abbrev cX1_numberAt : ByteArray := prog_3_method_4_code
def yX1_numberAt : MethodName := ⟨RX1, "numberAt", "(I)I"⟩
abbrev cX1_indexOf : ByteArray := prog_3_method_5_code
def yX1_indexOf : MethodName := ⟨RX1, "indexOf", "(LCallBoard$Handler;)I"⟩
abbrev cX1_hasLaidSame : ByteArray := prog_3_method_6_code
def yX1_hasLaidSame : MethodName := ⟨RX1, "hasLaidSame", "(LCallBoard$Handler;)Z"⟩
abbrev cX1_putLaid : ByteArray := prog_3_method_7_code
def yX1_putLaid : MethodName := ⟨RX1, "putLaid", "(LCallBoard$Handler;)Z"⟩
abbrev cX1_dropLaid : ByteArray := prog_3_method_8_code
def yX1_dropLaid : MethodName := ⟨RX1, "dropLaid", "(LCallBoard$Handler;)V"⟩
abbrev cX1_compareLaid : ByteArray := prog_3_method_9_code
def yX1_compareLaid : MethodName := ⟨RX1, "compareLaid", "()V"⟩
abbrev cX1_putInOrder : ByteArray := prog_3_method_10_code
def yX1_putInOrder : MethodName := ⟨RX1, "putInOrder", "()V"⟩
abbrev cX1_beatenByAny : ByteArray := prog_3_method_11_code
def yX1_beatenByAny : MethodName := ⟨RX1, "beatenByAny", "(I)I"⟩
abbrev cX1_beatenBy : ByteArray := prog_3_method_12_code
def yX1_beatenBy : MethodName := ⟨RX1, "beatenBy", "(I)I"⟩
abbrev cX1_beatersOf : ByteArray := prog_3_method_13_code
def yX1_beatersOf : MethodName := ⟨RX1, "beatersOf", "(I)I"⟩
abbrev cX1_takersOf : ByteArray := prog_3_method_14_code
def yX1_takersOf : MethodName := ⟨RX1, "takersOf", "(LCallBoard$Row;)I"⟩
abbrev cX1_plainTakersOf : ByteArray := prog_3_method_15_code
def yX1_plainTakersOf : MethodName := ⟨RX1, "plainTakersOf", "(LCallBoard$Row;)I"⟩
abbrev cX1_takersOfClass : ByteArray := prog_3_method_16_code
def yX1_takersOfClass : MethodName := ⟨RX1, "takersOfClass", "(II)I"⟩
abbrev cX1_takersOfWeight : ByteArray := prog_3_method_17_code
def yX1_takersOfWeight : MethodName := ⟨RX1, "takersOfWeight", "(II)I"⟩
abbrev cX1_chosenOf : ByteArray := prog_3_method_18_code
def yX1_chosenOf : MethodName := ⟨RX1, "chosenOf", "(I)I"⟩
abbrev cX1_lookForRow : ByteArray := prog_3_method_19_code
def yX1_lookForRow : MethodName := ⟨RX1, "lookForRow", "(LCallBoard$Row;)V"⟩
abbrev cX1_pieceOf : ByteArray := prog_3_method_20_code
def yX1_pieceOf : MethodName := ⟨RX1, "pieceOf", "(II)J"⟩
def RX2 : String := "CallBoard$Handler"
def TX2 : u_T := fun k => match k with
  | 0 => ("CallBoard$Handler", "owner", "LCallBoard$Function;", true)
  | 1 => ("CallBoard$Handler", "number", "I", true)
  | 2 => ("CallBoard$Handler", "action", "I", true)
  | 3 => ("CallBoard$Handler", "value", "I", true)
  | 4 => ("CallBoard$Handler", "around", "Z", true)
  | 5 => ("CallBoard$Handler", "codes", "[I", true)
  | 6 => ("CallBoard$Handler", "lows", "[I", true)
  | 7 => ("CallBoard$Handler", "highs", "[I", true)
  | _ => ("CallBoard$Handler", "state", "I", false)
def tyX2 : Nat → FieldType := fun k => match k with
  | 0 => .object "CallBoard$Function"
  | 1 => .int
  | 2 => .int
  | 3 => .int
  | 4 => .boolean
  | 5 => .array .int
  | 6 => .array .int
  | 7 => .array .int
  | _ => .int
abbrev wsX20 : List Cond := u_ws RX2 TX2 9
theorem nmX2 : ∀ a, a < 9 → ∀ b, b < 9 → a ≠ b → (TX2 a).2.1 ≠ (TX2 b).2.1 := by decide +kernel
theorem tyX2_ok : ∀ k, k < 9 → parseFieldDescriptor (TX2 k).2.2.1 = some (tyX2 k) := by decide +kernel
abbrev cX2_init : ByteArray := prog_4_method_1_code
def yX2_init : MethodName := ⟨RX2, "<init>", "(LCallBoard$Function;IIIZ)V"⟩
abbrev cX2_takesClass : ByteArray := prog_4_method_2_code
def yX2_takesClass : MethodName := ⟨RX2, "takesClass", "(II)Z"⟩
abbrev cX2_takesWeight : ByteArray := prog_4_method_3_code
def yX2_takesWeight : MethodName := ⟨RX2, "takesWeight", "(II)Z"⟩
abbrev cX2_firstRefusingPlace : ByteArray := prog_4_method_4_code
def yX2_firstRefusingPlace : MethodName := ⟨RX2, "firstRefusingPlace", "(LCallBoard$Row;)I"⟩
abbrev cX2_isSameAt : ByteArray := prog_4_method_5_code
def yX2_isSameAt : MethodName := ⟨RX2, "isSameAt", "(ILCallBoard$Handler;)Z"⟩
abbrev cX2_isNarrowerAt : ByteArray := prog_4_method_6_code
def yX2_isNarrowerAt : MethodName := ⟨RX2, "isNarrowerAt", "(ILCallBoard$Handler;)Z"⟩
abbrev cX2_isSameAs : ByteArray := prog_4_method_7_code
def yX2_isSameAs : MethodName := ⟨RX2, "isSameAs", "(LCallBoard$Handler;)Z"⟩
abbrev cX2_isMoreSpecific : ByteArray := prog_4_method_8_code
def yX2_isMoreSpecific : MethodName := ⟨RX2, "isMoreSpecific", "(LCallBoard$Handler;)Z"⟩
def RX3 : String := "CallBoard$Latest"
def TX3 : u_T := fun k => match k with
  | 0 => ("CallBoard$Latest", "steps", "[I", true)
  | 1 => ("CallBoard$Latest", "stepCount", "I", false)
  | 2 => ("CallBoard$Latest", "deepest", "I", false)
  | 3 => ("CallBoard$Latest", "outcome", "I", false)
  | 4 => ("CallBoard$Latest", "failed", "I", false)
  | _ => ("CallBoard$Latest", "sum", "J", false)
def tyX3 : Nat → FieldType := fun k => match k with
  | 0 => .array .int
  | 1 => .int
  | 2 => .int
  | 3 => .int
  | 4 => .int
  | _ => .long
abbrev wsX30 : List Cond := u_ws RX3 TX3 6
theorem nmX3 : ∀ a, a < 6 → ∀ b, b < 6 → a ≠ b → (TX3 a).2.1 ≠ (TX3 b).2.1 := by decide +kernel
theorem tyX3_ok : ∀ k, k < 6 → parseFieldDescriptor (TX3 k).2.2.1 = some (tyX3 k) := by decide +kernel
abbrev cX3_init : ByteArray := prog_5_method_1_code
def yX3_init : MethodName := ⟨RX3, "<init>", "()V"⟩
abbrev cX3_begin : ByteArray := prog_5_method_2_code
def yX3_begin : MethodName := ⟨RX3, "begin", "()V"⟩
abbrev cX3_addStep : ByteArray := prog_5_method_3_code
def yX3_addStep : MethodName := ⟨RX3, "addStep", "(I)V"⟩
abbrev cX3_endWithValue : ByteArray := prog_5_method_4_code
def yX3_endWithValue : MethodName := ⟨RX3, "endWithValue", "(J)V"⟩
abbrev cX3_endWithFailure : ByteArray := prog_5_method_5_code
def yX3_endWithFailure : MethodName := ⟨RX3, "endWithFailure", "(I)V"⟩
def RX4 : String := "CallBoard$Memory"
def TX4 : u_T := fun k => match k with
  | 0 => ("CallBoard$Memory", "classes", "[I", true)
  | 1 => ("CallBoard$Memory", "firstPieces", "[J", true)
  | 2 => ("CallBoard$Memory", "secondPieces", "[J", true)
  | 3 => ("CallBoard$Memory", "looked", "[I", true)
  | 4 => ("CallBoard$Memory", "looks", "I", false)
  | 5 => ("CallBoard$Memory", "size", "I", false)
  | _ => ("CallBoard$Memory", "hits", "I", false)
def tyX4 : Nat → FieldType := fun k => match k with
  | 0 => .array .int
  | 1 => .array .long
  | 2 => .array .long
  | 3 => .array .int
  | 4 => .int
  | 5 => .int
  | _ => .int
abbrev wsX40 : List Cond := u_ws RX4 TX4 7
theorem nmX4 : ∀ a, a < 7 → ∀ b, b < 7 → a ≠ b → (TX4 a).2.1 ≠ (TX4 b).2.1 := by decide +kernel
theorem tyX4_ok : ∀ k, k < 7 → parseFieldDescriptor (TX4 k).2.2.1 = some (tyX4 k) := by decide +kernel
abbrev cX4_init : ByteArray := prog_6_method_1_code
def yX4_init : MethodName := ⟨RX4, "<init>", "()V"⟩
abbrev cX4_forget : ByteArray := prog_6_method_2_code
def yX4_forget : MethodName := ⟨RX4, "forget", "()V"⟩
abbrev cX4_look : ByteArray := prog_6_method_3_code
def yX4_look : MethodName := ⟨RX4, "look", "(IJJ)V"⟩
abbrev cX4_find : ByteArray := prog_6_method_4_code
def yX4_find : MethodName := ⟨RX4, "find", "(IJJ)I"⟩
abbrev cX4_makeRoom : ByteArray := prog_6_method_5_code
def yX4_makeRoom : MethodName := ⟨RX4, "makeRoom", "()I"⟩
def RX5 : String := "CallBoard$Proof"
def TX5 : u_T := fun k => match k with
  | 0 => ("CallBoard$Proof", "first", "LCallBoard$Cells;", true)
  | 1 => ("CallBoard$Proof", "second", "LCallBoard$Cells;", true)
  | 2 => ("CallBoard$Proof", "atFirst", "I", false)
  | 3 => ("CallBoard$Proof", "atSecond", "I", false)
  | 4 => ("CallBoard$Proof", "lesser", "I", false)
  | _ => ("CallBoard$Proof", "greater", "I", false)
def tyX5 : Nat → FieldType := fun k => match k with
  | 0 => .object "CallBoard$Cells"
  | 1 => .object "CallBoard$Cells"
  | 2 => .int
  | 3 => .int
  | 4 => .int
  | _ => .int
abbrev wsX50 : List Cond := u_ws RX5 TX5 6
theorem nmX5 : ∀ a, a < 6 → ∀ b, b < 6 → a ≠ b → (TX5 a).2.1 ≠ (TX5 b).2.1 := by decide +kernel
theorem tyX5_ok : ∀ k, k < 6 → parseFieldDescriptor (TX5 k).2.2.1 = some (tyX5 k) := by decide +kernel
abbrev cX5_init : ByteArray := prog_7_method_1_code
def yX5_init : MethodName := ⟨RX5, "<init>", "()V"⟩
abbrev cX5_fillCells : ByteArray := prog_7_method_2_code
def yX5_fillCells : MethodName := ⟨RX5, "fillCells", "(LCallBoard$Function;)V"⟩
abbrev cX5_findHole : ByteArray := prog_7_method_3_code
def yX5_findHole : MethodName := ⟨RX5, "findHole", "(LCallBoard$Function;)Z"⟩
abbrev cX5_findDoubt : ByteArray := prog_7_method_4_code
def yX5_findDoubt : MethodName := ⟨RX5, "findDoubt", "(LCallBoard$Function;I)Z"⟩
abbrev cX5_haveDoubt : ByteArray := prog_7_method_5_code
def yX5_haveDoubt : MethodName := ⟨RX5, "haveDoubt", "(LCallBoard$Function;II)Z"⟩
abbrev cX5_foundAt : ByteArray := prog_7_method_6_code
def yX5_foundAt : MethodName := ⟨RX5, "foundAt", "(II)Z"⟩
abbrev cX5_partOfTuple : ByteArray := prog_7_method_7_code
def yX5_partOfTuple : MethodName := ⟨RX5, "partOfTuple", "(I)I"⟩
def RX6 : String := "CallBoard$Row"
def TX6 : u_T := fun k => match k with
  | 0 => ("CallBoard$Row", "classes", "[I", true)
  | 1 => ("CallBoard$Row", "weights", "[I", true)
  | _ => ("CallBoard$Row", "places", "I", false)
def tyX6 : Nat → FieldType := fun k => match k with
  | 0 => .array .int
  | 1 => .array .int
  | _ => .int
abbrev wsX60 : List Cond := u_ws RX6 TX6 3
theorem nmX6 : ∀ a, a < 3 → ∀ b, b < 3 → a ≠ b → (TX6 a).2.1 ≠ (TX6 b).2.1 := by decide +kernel
theorem tyX6_ok : ∀ k, k < 3 → parseFieldDescriptor (TX6 k).2.2.1 = some (tyX6 k) := by decide +kernel
abbrev cX6_init : ByteArray := prog_8_method_1_code
def yX6_init : MethodName := ⟨RX6, "<init>", "()V"⟩
abbrev cX6_weightTogether : ByteArray := prog_8_method_2_code
def yX6_weightTogether : MethodName := ⟨RX6, "weightTogether", "()J"⟩
abbrev cX6_turnRound : ByteArray := prog_8_method_3_code
def yX6_turnRound : MethodName := ⟨RX6, "turnRound", "()V"⟩
def RX7 : String := "CallBoard$Stock"
def TX7 : u_T := fun k => match k with
  | 0 => ("CallBoard$Stock", "classes", "[I", true)
  | 1 => ("CallBoard$Stock", "weights", "[I", true)
  | _ => ("CallBoard$Stock", "size", "I", false)
def tyX7 : Nat → FieldType := fun k => match k with
  | 0 => .array .int
  | 1 => .array .int
  | _ => .int
abbrev wsX70 : List Cond := u_ws RX7 TX7 3
theorem nmX7 : ∀ a, a < 3 → ∀ b, b < 3 → a ≠ b → (TX7 a).2.1 ≠ (TX7 b).2.1 := by decide +kernel
theorem tyX7_ok : ∀ k, k < 3 → parseFieldDescriptor (TX7 k).2.2.1 = some (tyX7 k) := by decide +kernel
abbrev cX7_init : ByteArray := prog_9_method_1_code
def yX7_init : MethodName := ⟨RX7, "<init>", "()V"⟩
abbrev cX7_holds : ByteArray := prog_9_method_2_code
def yX7_holds : MethodName := ⟨RX7, "holds", "(I)Z"⟩
abbrev cX7_bring : ByteArray := prog_9_method_3_code
def yX7_bring : MethodName := ⟨RX7, "bring", "(II)I"⟩
def RX8 : String := "CallBoard$Table"
def TX8 : u_T := fun k => match k with
  | 0 => ("CallBoard$Table", "parents", "[I", true)
  | 1 => ("CallBoard$Table", "traits", "[I", true)
  | 2 => ("CallBoard$Table", "reach", "[I", true)
  | 3 => ("CallBoard$Table", "abstracts", "I", false)
  | _ => ("CallBoard$Table", "closed", "Z", false)
def tyX8 : Nat → FieldType := fun k => match k with
  | 0 => .array .int
  | 1 => .array .int
  | 2 => .array .int
  | 3 => .int
  | _ => .boolean
abbrev wsX80 : List Cond := u_ws RX8 TX8 5
theorem nmX8 : ∀ a, a < 5 → ∀ b, b < 5 → a ≠ b → (TX8 a).2.1 ≠ (TX8 b).2.1 := by decide +kernel
theorem tyX8_ok : ∀ k, k < 5 → parseFieldDescriptor (TX8 k).2.2.1 = some (tyX8 k) := by decide +kernel
abbrev cX8_init : ByteArray := prog_10_method_1_code
def yX8_init : MethodName := ⟨RX8, "<init>", "()V"⟩
abbrev cX8_addTrait : ByteArray := prog_10_method_2_code
def yX8_addTrait : MethodName := ⟨RX8, "addTrait", "(II)I"⟩
abbrev cX8_isAbstract : ByteArray := prog_10_method_3_code
def yX8_isAbstract : MethodName := ⟨RX8, "isAbstract", "(I)Z"⟩
abbrev cX8_findReach : ByteArray := prog_10_method_4_code
def yX8_findReach : MethodName := ⟨RX8, "findReach", "()V"⟩
abbrev cX8_goesRound : ByteArray := prog_10_method_5_code
def yX8_goesRound : MethodName := ⟨RX8, "goesRound", "()Z"⟩
abbrev cX8_isBelow : ByteArray := prog_10_method_6_code
def yX8_isBelow : MethodName := ⟨RX8, "isBelow", "(II)Z"⟩
def RX9 : String := "CallBoard"
def TX9 : u_T := fun k => match k with
  | 0 => ("CallBoard", "table", "LCallBoard$Table;", true)
  | 1 => ("CallBoard", "stock", "LCallBoard$Stock;", true)
  | 2 => ("CallBoard", "functions", "[LCallBoard$Function;", true)
  | 3 => ("CallBoard", "handlers", "[LCallBoard$Handler;", true)
  | 4 => ("CallBoard", "told", "[I", true)
  | 5 => ("CallBoard", "counters", "[I", true)
  | 6 => ("CallBoard", "row", "LCallBoard$Row;", true)
  | 7 => ("CallBoard", "latest", "LCallBoard$Latest;", true)
  | 8 => ("CallBoard", "proof", "LCallBoard$Proof;", true)
  | 9 => ("CallBoard", "functionCount", "I", false)
  | 10 => ("CallBoard", "handlerCount", "I", false)
  | _ => ("CallBoard", "explained", "I", false)
def tyX9 : Nat → FieldType := fun k => match k with
  | 0 => .object "CallBoard$Table"
  | 1 => .object "CallBoard$Stock"
  | 2 => .array (.object "CallBoard$Function")
  | 3 => .array (.object "CallBoard$Handler")
  | 4 => .array .int
  | 5 => .array .int
  | 6 => .object "CallBoard$Row"
  | 7 => .object "CallBoard$Latest"
  | 8 => .object "CallBoard$Proof"
  | 9 => .int
  | 10 => .int
  | _ => .int
abbrev wsX90 : List Cond := u_ws RX9 TX9 12
theorem nmX9 : ∀ a, a < 12 → ∀ b, b < 12 → a ≠ b → (TX9 a).2.1 ≠ (TX9 b).2.1 := by decide +kernel
theorem tyX9_ok : ∀ k, k < 12 → parseFieldDescriptor (TX9 k).2.2.1 = some (tyX9 k) := by decide +kernel
abbrev cX9_init : ByteArray := prog_1_method_1_code
def yX9_init : MethodName := ⟨RX9, "<init>", "()V"⟩
abbrev cX9_parent : ByteArray := prog_1_method_2_code
def yX9_parent : MethodName := ⟨RX9, "parent", "(II)I"⟩
abbrev cX9_trait : ByteArray := prog_1_method_3_code
def yX9_trait : MethodName := ⟨RX9, "trait", "(II)I"⟩
abbrev cX9_has : ByteArray := prog_1_method_4_code
def yX9_has : MethodName := ⟨RX9, "has", "(II)I"⟩
abbrev cX9_flag : ByteArray := prog_1_method_5_code
def yX9_flag : MethodName := ⟨RX9, "flag", "(I)I"⟩
abbrev cX9_close : ByteArray := prog_1_method_6_code
def yX9_close : MethodName := ⟨RX9, "close", "()I"⟩
abbrev cX9_below : ByteArray := prog_1_method_7_code
def yX9_below : MethodName := ⟨RX9, "below", "(II)Z"⟩
abbrev cX9_sample : ByteArray := prog_1_method_8_code
def yX9_sample : MethodName := ⟨RX9, "sample", "(II)I"⟩
abbrev cX9_of : ByteArray := prog_1_method_9_code
def yX9_of : MethodName := ⟨RX9, "of", "(II)I"⟩
abbrev cX9_samples : ByteArray := prog_1_method_10_code
def yX9_samples : MethodName := ⟨RX9, "samples", "()I"⟩
abbrev cX9_function : ByteArray := prog_1_method_11_code
def yX9_function : MethodName := ⟨RX9, "function", "(I)I"⟩
abbrev cX9_handler : ByteArray := prog_1_method_12_code
def yX9_handler : MethodName := ⟨RX9, "handler", "(IIIZ)I"⟩
abbrev cX9_place : ByteArray := prog_1_method_13_code
def yX9_place : MethodName := ⟨RX9, "place", "(III)I"⟩
abbrev cX9_test : ByteArray := prog_1_method_14_code
def yX9_test : MethodName := ⟨RX9, "test", "(IIII)I"⟩
abbrev cX9_lay : ByteArray := prog_1_method_15_code
def yX9_lay : MethodName := ⟨RX9, "lay", "(I)I"⟩
abbrev cX9_lift : ByteArray := prog_1_method_16_code
def yX9_lift : MethodName := ⟨RX9, "lift", "(I)I"⟩
abbrev cX9_freeze : ByteArray := prog_1_method_17_code
def yX9_freeze : MethodName := ⟨RX9, "freeze", "(IZ)I"⟩
abbrev cX9_about : ByteArray := prog_1_method_18_code
def yX9_about : MethodName := ⟨RX9, "about", "(II)I"⟩
abbrev cX9_dominates : ByteArray := prog_1_method_19_code
def yX9_dominates : MethodName := ⟨RX9, "dominates", "(II)Z"⟩
abbrev cX9_order : ByteArray := prog_1_method_20_code
def yX9_order : MethodName := ⟨RX9, "order", "(II)I"⟩
abbrev cX9_arg : ByteArray := prog_1_method_21_code
def yX9_arg : MethodName := ⟨RX9, "arg", "(II)I"⟩
abbrev cX9_call : ByteArray := prog_1_method_22_code
def yX9_call : MethodName := ⟨RX9, "call", "(I)I"⟩
abbrev cX9_value : ByteArray := prog_1_method_23_code
def yX9_value : MethodName := ⟨RX9, "value", "()J"⟩
abbrev cX9_failure : ByteArray := prog_1_method_24_code
def yX9_failure : MethodName := ⟨RX9, "failure", "()I"⟩
abbrev cX9_step : ByteArray := prog_1_method_25_code
def yX9_step : MethodName := ⟨RX9, "step", "(I)I"⟩
abbrev cX9_counter : ByteArray := prog_1_method_26_code
def yX9_counter : MethodName := ⟨RX9, "counter", "(I)I"⟩
abbrev cX9_applicable : ByteArray := prog_1_method_27_code
def yX9_applicable : MethodName := ⟨RX9, "applicable", "(II)I"⟩
abbrev cX9_most : ByteArray := prog_1_method_28_code
def yX9_most : MethodName := ⟨RX9, "most", "(I)I"⟩
abbrev cX9_explain : ByteArray := prog_1_method_29_code
def yX9_explain : MethodName := ⟨RX9, "explain", "(I)I"⟩
abbrev cX9_where : ByteArray := prog_1_method_30_code
def yX9_where : MethodName := ⟨RX9, "where", "()I"⟩
abbrev cX9_count : ByteArray := prog_1_method_31_code
def yX9_count : MethodName := ⟨RX9, "count", "(II)I"⟩
abbrev cX9_covered : ByteArray := prog_1_method_32_code
def yX9_covered : MethodName := ⟨RX9, "covered", "(I)I"⟩
abbrev cX9_hole : ByteArray := prog_1_method_33_code
def yX9_hole : MethodName := ⟨RX9, "hole", "(II)J"⟩
abbrev cX9_doubt : ByteArray := prog_1_method_34_code
def yX9_doubt : MethodName := ⟨RX9, "doubt", "(III)J"⟩
abbrev cX9_isClass : ByteArray := prog_1_method_35_code
def yX9_isClass : MethodName := ⟨RX9, "isClass", "(I)Z"⟩
abbrev cX9_isTrait : ByteArray := prog_1_method_36_code
def yX9_isTrait : MethodName := ⟨RX9, "isTrait", "(I)Z"⟩
abbrev cX9_isCode : ByteArray := prog_1_method_37_code
def yX9_isCode : MethodName := ⟨RX9, "isCode", "(I)Z"⟩
abbrev cX9_elementOrZero : ByteArray := prog_1_method_38_code
def yX9_elementOrZero : MethodName := ⟨RX9, "elementOrZero", "([II)I"⟩
abbrev cX9_memberAt : ByteArray := prog_1_method_39_code
def yX9_memberAt : MethodName := ⟨RX9, "memberAt", "(II)I"⟩
abbrev cX9_functionAt : ByteArray := prog_1_method_40_code
def yX9_functionAt : MethodName := ⟨RX9, "functionAt", "(I)LCallBoard$Function;"⟩
abbrev cX9_handlerAt : ByteArray := prog_1_method_41_code
def yX9_handlerAt : MethodName := ⟨RX9, "handlerAt", "(I)LCallBoard$Handler;"⟩
abbrev cX9_readToldRow : ByteArray := prog_1_method_42_code
def yX9_readToldRow : MethodName := ⟨RX9, "readToldRow", "(LCallBoard$Function;)Z"⟩
abbrev cX9_countOfAll : ByteArray := prog_1_method_43_code
def yX9_countOfAll : MethodName := ⟨RX9, "countOfAll", "(I)I"⟩
abbrev cX9_explainAmongTakers : ByteArray := prog_1_method_44_code
def yX9_explainAmongTakers : MethodName := ⟨RX9, "explainAmongTakers", "(LCallBoard$Handler;)I"⟩
abbrev cX9_carryOut : ByteArray := prog_1_method_45_code
def yX9_carryOut : MethodName := ⟨RX9, "carryOut", "(LCallBoard$Function;)LCallBoard$Function;"⟩
abbrev cX9_isBarred : ByteArray := prog_1_method_46_code
def yX9_isBarred : MethodName := ⟨RX9, "isBarred", "(LCallBoard$Function;)Z"⟩
abbrev cX9_runChosen : ByteArray := prog_1_method_47_code
def yX9_runChosen : MethodName := ⟨RX9, "runChosen", "(LCallBoard$Function;I)LCallBoard$Function;"⟩
abbrev cX9_act : ByteArray := prog_1_method_48_code
def yX9_act : MethodName := ⟨RX9, "act", "(LCallBoard$Handler;)LCallBoard$Function;"⟩
abbrev cX9_countUp : ByteArray := prog_1_method_49_code
def yX9_countUp : MethodName := ⟨RX9, "countUp", "(I)I"⟩
abbrev cX9_bringSample : ByteArray := prog_1_method_50_code
def yX9_bringSample : MethodName := ⟨RX9, "bringSample", "(I)V"⟩
abbrev cX9_calledWithin : ByteArray := prog_1_method_51_code
def yX9_calledWithin : MethodName := ⟨RX9, "calledWithin", "(LCallBoard$Handler;)LCallBoard$Function;"⟩
def RX10 : String := "CallBoardModel"
def TX10 : u_T := fun k => match k with
  | 0 => ("CallBoardModel", "parents", "[I", true)
  | 1 => ("CallBoardModel", "direct", "[Z", true)
  | 2 => ("CallBoardModel", "under", "[Z", true)
  | 3 => ("CallBoardModel", "unmade", "[Z", true)
  | 4 => ("CallBoardModel", "closed", "Z", false)
  | 5 => ("CallBoardModel", "samples", "I", false)
  | 6 => ("CallBoardModel", "kinds", "[I", true)
  | 7 => ("CallBoardModel", "weights", "[I", true)
  | 8 => ("CallBoardModel", "functions", "I", false)
  | 9 => ("CallBoardModel", "places", "[I", true)
  | 10 => ("CallBoardModel", "frozen", "[Z", true)
  | 11 => ("CallBoardModel", "hits", "[I", true)
  | 12 => ("CallBoardModel", "rows", "[J", true)
  | 13 => ("CallBoardModel", "rowMany", "[I", true)
  | 14 => ("CallBoardModel", "handlers", "I", false)
  | 15 => ("CallBoardModel", "functionOf", "[I", true)
  | 16 => ("CallBoardModel", "actions", "[I", true)
  | 17 => ("CallBoardModel", "values", "[I", true)
  | 18 => ("CallBoardModel", "around", "[Z", true)
  | 19 => ("CallBoardModel", "states", "[I", true)
  | 20 => ("CallBoardModel", "codes", "[I", true)
  | 21 => ("CallBoardModel", "lows", "[I", true)
  | 22 => ("CallBoardModel", "highs", "[I", true)
  | 23 => ("CallBoardModel", "counters", "[I", true)
  | 24 => ("CallBoardModel", "told", "[I", true)
  | 25 => ("CallBoardModel", "outcome", "I", false)
  | 26 => ("CallBoardModel", "result", "J", false)
  | 27 => ("CallBoardModel", "fault", "I", false)
  | 28 => ("CallBoardModel", "steps", "[I", true)
  | 29 => ("CallBoardModel", "stepMany", "I", false)
  | 30 => ("CallBoardModel", "deepest", "I", false)
  | 31 => ("CallBoardModel", "rowKinds", "[I", true)
  | 32 => ("CallBoardModel", "rowWeights", "[J", true)
  | 33 => ("CallBoardModel", "foundPlace", "I", false)
  | 34 => ("CallBoardModel", "gone", "[Z", true)
  | 35 => ("CallBoardModel", "edges", "[J", true)
  | 36 => ("CallBoardModel", "edgeMany", "[I", true)
  | 37 => ("CallBoardModel", "edgeAt", "[I", true)
  | _ => ("CallBoardModel", "tuple", "[J", true)
def tyX10 : Nat → FieldType := fun k => match k with
  | 0 => .array .int
  | 1 => .array .boolean
  | 2 => .array .boolean
  | 3 => .array .boolean
  | 4 => .boolean
  | 5 => .int
  | 6 => .array .int
  | 7 => .array .int
  | 8 => .int
  | 9 => .array .int
  | 10 => .array .boolean
  | 11 => .array .int
  | 12 => .array .long
  | 13 => .array .int
  | 14 => .int
  | 15 => .array .int
  | 16 => .array .int
  | 17 => .array .int
  | 18 => .array .boolean
  | 19 => .array .int
  | 20 => .array .int
  | 21 => .array .int
  | 22 => .array .int
  | 23 => .array .int
  | 24 => .array .int
  | 25 => .int
  | 26 => .long
  | 27 => .int
  | 28 => .array .int
  | 29 => .int
  | 30 => .int
  | 31 => .array .int
  | 32 => .array .long
  | 33 => .int
  | 34 => .array .boolean
  | 35 => .array .long
  | 36 => .array .int
  | 37 => .array .int
  | _ => .array .long
abbrev wsX100 : List Cond := u_ws RX10 TX10 39
theorem nmX10 : ∀ a, a < 39 → ∀ b, b < 39 → a ≠ b → (TX10 a).2.1 ≠ (TX10 b).2.1 := by decide +kernel
theorem tyX10_ok : ∀ k, k < 39 → parseFieldDescriptor (TX10 k).2.2.1 = some (tyX10 k) := by decide +kernel
abbrev cX10_init : ByteArray := prog_12_method_1_code
def yX10_init : MethodName := ⟨RX10, "<init>", "()V"⟩
abbrev cX10_isClass : ByteArray := prog_12_method_2_code
def yX10_isClass : MethodName := ⟨RX10, "isClass", "(I)Z"⟩
abbrev cX10_isTrait : ByteArray := prog_12_method_3_code
def yX10_isTrait : MethodName := ⟨RX10, "isTrait", "(I)Z"⟩
abbrev cX10_parent : ByteArray := prog_12_method_4_code
def yX10_parent : MethodName := ⟨RX10, "parent", "(II)I"⟩
abbrev cX10_add : ByteArray := prog_12_method_5_code
def yX10_add : MethodName := ⟨RX10, "add", "(II)I"⟩
abbrev cX10_trait : ByteArray := prog_12_method_6_code
def yX10_trait : MethodName := ⟨RX10, "trait", "(II)I"⟩
abbrev cX10_has : ByteArray := prog_12_method_7_code
def yX10_has : MethodName := ⟨RX10, "has", "(II)I"⟩
abbrev cX10_flag : ByteArray := prog_12_method_8_code
def yX10_flag : MethodName := ⟨RX10, "flag", "(I)I"⟩
abbrev cX10_close : ByteArray := prog_12_method_9_code
def yX10_close : MethodName := ⟨RX10, "close", "()I"⟩
abbrev cX10_isBelow : ByteArray := prog_12_method_10_code
def yX10_isBelow : MethodName := ⟨RX10, "isBelow", "(II)Z"⟩
abbrev cX10_below : ByteArray := prog_12_method_11_code
def yX10_below : MethodName := ⟨RX10, "below", "(II)Z"⟩
abbrev cX10_sample : ByteArray := prog_12_method_12_code
def yX10_sample : MethodName := ⟨RX10, "sample", "(II)I"⟩
abbrev cX10_of : ByteArray := prog_12_method_13_code
def yX10_of : MethodName := ⟨RX10, "of", "(II)I"⟩
abbrev cX10_samples : ByteArray := prog_12_method_14_code
def yX10_samples : MethodName := ⟨RX10, "samples", "()I"⟩
abbrev cX10_function : ByteArray := prog_12_method_15_code
def yX10_function : MethodName := ⟨RX10, "function", "(I)I"⟩
abbrev cX10_isFunction : ByteArray := prog_12_method_16_code
def yX10_isFunction : MethodName := ⟨RX10, "isFunction", "(I)Z"⟩
abbrev cX10_isHandler : ByteArray := prog_12_method_17_code
def yX10_isHandler : MethodName := ⟨RX10, "isHandler", "(I)Z"⟩
abbrev cX10_handler : ByteArray := prog_12_method_18_code
def yX10_handler : MethodName := ⟨RX10, "handler", "(IIIZ)I"⟩
abbrev cX10_hasPlace : ByteArray := prog_12_method_19_code
def yX10_hasPlace : MethodName := ⟨RX10, "hasPlace", "(II)Z"⟩
abbrev cX10_place : ByteArray := prog_12_method_20_code
def yX10_place : MethodName := ⟨RX10, "place", "(III)I"⟩
abbrev cX10_test : ByteArray := prog_12_method_21_code
def yX10_test : MethodName := ⟨RX10, "test", "(IIII)I"⟩
abbrev cX10_isLaid : ByteArray := prog_12_method_22_code
def yX10_isLaid : MethodName := ⟨RX10, "isLaid", "(II)Z"⟩
abbrev cX10_laid : ByteArray := prog_12_method_23_code
def yX10_laid : MethodName := ⟨RX10, "laid", "(I)I"⟩
abbrev cX10_areSame : ByteArray := prog_12_method_24_code
def yX10_areSame : MethodName := ⟨RX10, "areSame", "(III)Z"⟩
abbrev cX10_isNarrower : ByteArray := prog_12_method_25_code
def yX10_isNarrower : MethodName := ⟨RX10, "isNarrower", "(III)Z"⟩
abbrev cX10_isMore : ByteArray := prog_12_method_26_code
def yX10_isMore : MethodName := ⟨RX10, "isMore", "(II)Z"⟩
abbrev cX10_lay : ByteArray := prog_12_method_27_code
def yX10_lay : MethodName := ⟨RX10, "lay", "(I)I"⟩
abbrev cX10_lift : ByteArray := prog_12_method_28_code
def yX10_lift : MethodName := ⟨RX10, "lift", "(I)I"⟩
abbrev cX10_freeze : ByteArray := prog_12_method_29_code
def yX10_freeze : MethodName := ⟨RX10, "freeze", "(IZ)I"⟩
abbrev cX10_about : ByteArray := prog_12_method_30_code
def yX10_about : MethodName := ⟨RX10, "about", "(II)I"⟩
abbrev cX10_dominates : ByteArray := prog_12_method_31_code
def yX10_dominates : MethodName := ⟨RX10, "dominates", "(II)Z"⟩
abbrev cX10_inOrder : ByteArray := prog_12_method_32_code
def yX10_inOrder : MethodName := ⟨RX10, "inOrder", "(II)I"⟩
abbrev cX10_order : ByteArray := prog_12_method_33_code
def yX10_order : MethodName := ⟨RX10, "order", "(II)I"⟩
abbrev cX10_takesAt : ByteArray := prog_12_method_34_code
def yX10_takesAt : MethodName := ⟨RX10, "takesAt", "(II)Z"⟩
abbrev cX10_takes : ByteArray := prog_12_method_35_code
def yX10_takes : MethodName := ⟨RX10, "takes", "(I)Z"⟩
abbrev cX10_isOffered : ByteArray := prog_12_method_36_code
def yX10_isOffered : MethodName := ⟨RX10, "isOffered", "(III)Z"⟩
abbrev cX10_offered : ByteArray := prog_12_method_37_code
def yX10_offered : MethodName := ⟨RX10, "offered", "(II)I"⟩
abbrev cX10_chosen : ByteArray := prog_12_method_38_code
def yX10_chosen : MethodName := ⟨RX10, "chosen", "(II)I"⟩
abbrev cX10_tellRow : ByteArray := prog_12_method_39_code
def yX10_tellRow : MethodName := ⟨RX10, "tellRow", "(I)Z"⟩
abbrev cX10_piece : ByteArray := prog_12_method_40_code
def yX10_piece : MethodName := ⟨RX10, "piece", "(II)J"⟩
abbrev cX10_remember : ByteArray := prog_12_method_41_code
def yX10_remember : MethodName := ⟨RX10, "remember", "(I)V"⟩
abbrev cX10_arg : ByteArray := prog_12_method_42_code
def yX10_arg : MethodName := ⟨RX10, "arg", "(II)I"⟩
abbrev cX10_note : ByteArray := prog_12_method_43_code
def yX10_note : MethodName := ⟨RX10, "note", "(I)V"⟩
abbrev cX10_weight : ByteArray := prog_12_method_44_code
def yX10_weight : MethodName := ⟨RX10, "weight", "(I)J"⟩
abbrev cX10_isBarred : ByteArray := prog_12_method_45_code
def yX10_isBarred : MethodName := ⟨RX10, "isBarred", "(I)Z"⟩
abbrev cX10_begin : ByteArray := prog_12_method_46_code
def yX10_begin : MethodName := ⟨RX10, "begin", "(I)I"⟩
abbrev cX10_choose : ByteArray := prog_12_method_47_code
def yX10_choose : MethodName := ⟨RX10, "choose", "(II)I"⟩
abbrev cX10_fail : ByteArray := prog_12_method_48_code
def yX10_fail : MethodName := ⟨RX10, "fail", "(I)I"⟩
abbrev cX10_end : ByteArray := prog_12_method_49_code
def yX10_end : MethodName := ⟨RX10, "end", "(J)I"⟩
abbrev cX10_turn : ByteArray := prog_12_method_50_code
def yX10_turn : MethodName := ⟨RX10, "turn", "()V"⟩
abbrev cX10_rest : ByteArray := prog_12_method_51_code
def yX10_rest : MethodName := ⟨RX10, "rest", "(II)I"⟩
abbrev cX10_callOn : ByteArray := prog_12_method_52_code
def yX10_callOn : MethodName := ⟨RX10, "callOn", "(II)I"⟩
abbrev cX10_grow : ByteArray := prog_12_method_53_code
def yX10_grow : MethodName := ⟨RX10, "grow", "(I)I"⟩
abbrev cX10_run : ByteArray := prog_12_method_54_code
def yX10_run : MethodName := ⟨RX10, "run", "(II)I"⟩
abbrev cX10_call : ByteArray := prog_12_method_55_code
def yX10_call : MethodName := ⟨RX10, "call", "(I)I"⟩
abbrev cX10_value : ByteArray := prog_12_method_56_code
def yX10_value : MethodName := ⟨RX10, "value", "()J"⟩
abbrev cX10_failure : ByteArray := prog_12_method_57_code
def yX10_failure : MethodName := ⟨RX10, "failure", "()I"⟩
abbrev cX10_step : ByteArray := prog_12_method_58_code
def yX10_step : MethodName := ⟨RX10, "step", "(I)I"⟩
abbrev cX10_counter : ByteArray := prog_12_method_59_code
def yX10_counter : MethodName := ⟨RX10, "counter", "(I)I"⟩
abbrev cX10_applicable : ByteArray := prog_12_method_60_code
def yX10_applicable : MethodName := ⟨RX10, "applicable", "(II)I"⟩
abbrev cX10_most : ByteArray := prog_12_method_61_code
def yX10_most : MethodName := ⟨RX10, "most", "(I)I"⟩
abbrev cX10_moreThan : ByteArray := prog_12_method_62_code
def yX10_moreThan : MethodName := ⟨RX10, "moreThan", "(II)I"⟩
abbrev cX10_explain : ByteArray := prog_12_method_63_code
def yX10_explain : MethodName := ⟨RX10, "explain", "(I)I"⟩
abbrev cX10_where : ByteArray := prog_12_method_64_code
def yX10_where : MethodName := ⟨RX10, "where", "()I"⟩
abbrev cX10_countAll : ByteArray := prog_12_method_65_code
def yX10_countAll : MethodName := ⟨RX10, "countAll", "(I)I"⟩
abbrev cX10_count : ByteArray := prog_12_method_66_code
def yX10_count : MethodName := ⟨RX10, "count", "(II)I"⟩
abbrev cX10_findEdges : ByteArray := prog_12_method_67_code
def yX10_findEdges : MethodName := ⟨RX10, "findEdges", "(II)V"⟩
abbrev cX10_nextClass : ByteArray := prog_12_method_68_code
def yX10_nextClass : MethodName := ⟨RX10, "nextClass", "(I)I"⟩
abbrev cX10_firstTuple : ByteArray := prog_12_method_69_code
def yX10_firstTuple : MethodName := ⟨RX10, "firstTuple", "(I)Z"⟩
abbrev cX10_nextAt : ByteArray := prog_12_method_70_code
def yX10_nextAt : MethodName := ⟨RX10, "nextAt", "(II)Z"⟩
abbrev cX10_nextTuple : ByteArray := prog_12_method_71_code
def yX10_nextTuple : MethodName := ⟨RX10, "nextTuple", "(I)Z"⟩
abbrev cX10_keepTuple : ByteArray := prog_12_method_72_code
def yX10_keepTuple : MethodName := ⟨RX10, "keepTuple", "(I)V"⟩
abbrev cX10_findHole : ByteArray := prog_12_method_73_code
def yX10_findHole : MethodName := ⟨RX10, "findHole", "(I)Z"⟩
abbrev cX10_covered : ByteArray := prog_12_method_74_code
def yX10_covered : MethodName := ⟨RX10, "covered", "(I)I"⟩
abbrev cX10_hole : ByteArray := prog_12_method_75_code
def yX10_hole : MethodName := ⟨RX10, "hole", "(II)J"⟩
abbrev cX10_areInDoubt : ByteArray := prog_12_method_76_code
def yX10_areInDoubt : MethodName := ⟨RX10, "areInDoubt", "(III)Z"⟩
abbrev cX10_findDoubt : ByteArray := prog_12_method_77_code
def yX10_findDoubt : MethodName := ⟨RX10, "findDoubt", "(III)Z"⟩
abbrev cX10_doubt : ByteArray := prog_12_method_78_code
def yX10_doubt : MethodName := ⟨RX10, "doubt", "(III)J"⟩
def RJ9 : String := "java/lang/Math"
def TJ9 : u_T := fun k => match k with
  | _ => ("", "", "", false)
def tyJ9 : Nat → FieldType := fun k => match k with
  | _ => .int
abbrev wsJ90 : List Cond := u_ws RJ9 TJ9 0
theorem nmJ9 : ∀ a, a < 0 → ∀ b, b < 0 → a ≠ b → (TJ9 a).2.1 ≠ (TJ9 b).2.1 := by decide +kernel
theorem tyJ9_ok : ∀ k, k < 0 → parseFieldDescriptor (TJ9 k).2.2.1 = some (tyJ9 k) := by decide +kernel
abbrev cJ9_floorMod_7cf53 : ByteArray := prog_13_method_50_code
def yJ9_floorMod_7cf53 : MethodName := ⟨RJ9, "floorMod", "(II)I"⟩
abbrev cJ9_min_f86c9 : ByteArray := prog_13_method_70_code
def yJ9_min_f86c9 : MethodName := ⟨RJ9, "min", "(JJ)J"⟩
def RJ7 : String := "java/util/Arrays"
def TJ7 : u_T := fun k => match k with
  | _ => ("", "", "", false)
def tyJ7 : Nat → FieldType := fun k => match k with
  | _ => .int
abbrev wsJ70 : List Cond := u_ws RJ7 TJ7 0
theorem nmJ7 : ∀ a, a < 0 → ∀ b, b < 0 → a ≠ b → (TJ7 a).2.1 ≠ (TJ7 b).2.1 := by decide +kernel
theorem tyJ7_ok : ∀ k, k < 0 → parseFieldDescriptor (TJ7 k).2.2.1 = some (tyJ7 k) := by decide +kernel
abbrev cJ7_fill_53178 : ByteArray := prog_14_method_103_code
def yJ7_fill_53178 : MethodName := ⟨RJ7, "fill", "([II)V"⟩
def RL : String := "CallBoardLaw"
abbrev cL_law : ByteArray := code
def yL_law : MethodName := ⟨RL, "law", "([I)Z"⟩
abbrev vwCl : List vw_C := [(RX0, TX0, 7), (RX1, TX1, 10), (RX2, TX2, 9), (RX3, TX3, 6), (RX4, TX4, 7), (RX5, TX5, 6), (RX6, TX6, 3), (RX7, TX7, 3), (RX8, TX8, 5), (RX9, TX9, 12), (RX10, TX10, 39)]
/-- the tables' words that stay good -/
def WW : List Cond := lw_tbl.filter goodWord
theorem inWW {w : Cond} (h : w ∈ lw_tbl) (g : goodWord w = true) : w ∈ WW := List.mem_filter.mpr ⟨h, g⟩
theorem tb_1 : ∀ w ∈ tables_1_1, w ∈ lw_tbl := fun w h => List.mem_append_right _ (List.mem_append_left _ h)
theorem tb_2 : ∀ w ∈ tables_1_2, w ∈ lw_tbl := fun w h => List.mem_append_right _ (List.mem_append_right _ (List.mem_append_left _ h))
theorem tb_3 : ∀ w ∈ tables_1_3, w ∈ lw_tbl := fun w h => List.mem_append_right _ (List.mem_append_right _ (List.mem_append_right _ (List.mem_append_left _ h)))
theorem tb_4 : ∀ w ∈ tables_1_4, w ∈ lw_tbl := fun w h => List.mem_append_right _ (List.mem_append_right _ (List.mem_append_right _ (List.mem_append_right _ (List.mem_append_left _ h))))
theorem tb_5 : ∀ w ∈ tables_1_5, w ∈ lw_tbl := fun w h => List.mem_append_right _ (List.mem_append_right _ (List.mem_append_right _ (List.mem_append_right _ (List.mem_append_right _ (List.mem_append_left _ h)))))
theorem tb_6 : ∀ w ∈ tables_1_6, w ∈ lw_tbl := fun w h => List.mem_append_right _ (List.mem_append_right _ (List.mem_append_right _ (List.mem_append_right _ (List.mem_append_right _ (List.mem_append_right _ (h))))))
theorem gw_w {w : Cond} (h : w ∈ WW) : w ∈ WW ∧ ((w.onTables && w.keeps) = true ∨ ∃ ty, w = .arrayClass ty) := ⟨h, good_of_word (List.mem_filter.mp h).2⟩
theorem gw_0 {y : MethodName} {b : ByteArray} {n : Nat} {r : Option FieldType} (h5 : Cond.code y b n r ∈ WW) : GoodIn WW (.code y b n r :: WW) := fun w hw => gw_w ((List.mem_cons.mp hw).elim (fun e => e ▸ h5) id)
theorem gw_V {own C : String} {idx : Nat} {y : MethodName} {b : ByteArray} {n : Nat} {r : Option FieldType} (h1 : Cond.methodLink own idx y ∈ WW) (h2 : Cond.instanceMethod y ∈ WW) (h3 : Cond.selects C y y ∈ WW) (h4 : Cond.initialized C ∈ WW) (h5 : Cond.code y b n r ∈ WW) : GoodIn WW (wsV own idx C y (.code y b n r :: WW)) := by
  intro w hw
  rcases List.mem_append.mp hw with h | h
  · refine gw_w ?_
    simp only [List.mem_cons, List.not_mem_nil, or_false] at h
    rcases h with rfl | rfl | rfl | rfl
    · exact h1
    · exact h2
    · exact h3
    · exact h4
  · exact gw_0 h5 w h
theorem gw_S {own : String} {idx : Nat} {y : MethodName} {b : ByteArray} {n : Nat} {r : Option FieldType} (h1 : Cond.methodLink own idx y ∈ WW) (h2 : Cond.static y ∈ WW) (h4 : Cond.initialized y.cls ∈ WW) (h5 : Cond.code y b n r ∈ WW) : GoodIn WW (va_wsS own idx y (.code y b n r :: WW)) := by
  intro w hw
  rcases List.mem_append.mp hw with h | h
  · refine gw_w ?_
    simp only [List.mem_cons, List.not_mem_nil, or_false] at h
    rcases h with rfl | rfl | rfl
    · exact h1
    · exact h2
    · exact h4
  · exact gw_0 h5 w h
abbrev wsX0_init : List Cond := .code yX0_init cX0_init 1 none :: WW
theorem kc_X0_init : Cond.code yX0_init cX0_init 1 none ∈ WW := inWW (tb_1 _ (List.mem_of_getElem? (i := 138) rfl)) rfl
theorem ki_X0_init : Cond.instanceMethod yX0_init ∈ WW := inWW (tb_1 _ (List.mem_of_getElem? (i := 137) rfl)) rfl
abbrev wsX0_fill : List Cond := .code yX0_fill cX0_fill 4 none :: WW
theorem kc_X0_fill : Cond.code yX0_fill cX0_fill 4 none ∈ WW := inWW (tb_4 _ (List.mem_of_getElem? (i := 21) rfl)) rfl
theorem ki_X0_fill : Cond.instanceMethod yX0_fill ∈ WW := inWW (tb_4 _ (List.mem_of_getElem? (i := 19) rfl)) rfl
theorem ks_X0_fill : Cond.selects RX0 yX0_fill yX0_fill ∈ WW := inWW (tb_4 _ (List.mem_of_getElem? (i := 20) rfl)) rfl
abbrev wsX0_addClass : List Cond := .code yX0_addClass cX0_addClass 4 none :: WW
theorem kc_X0_addClass : Cond.code yX0_addClass cX0_addClass 4 none ∈ WW := inWW (tb_4 _ (List.mem_of_getElem? (i := 44) rfl)) rfl
theorem ki_X0_addClass : Cond.instanceMethod yX0_addClass ∈ WW := inWW (tb_4 _ (List.mem_of_getElem? (i := 43) rfl)) rfl
theorem ks_X0_addClass : Cond.selects RX0 yX0_addClass yX0_addClass ∈ WW := inWW (List.mem_append_left _ (List.mem_of_getElem? (i := 24) rfl)) rfl
abbrev wsX0_addNew : List Cond := .code yX0_addNew cX0_addNew 5 none :: WW
theorem kc_X0_addNew : Cond.code yX0_addNew cX0_addNew 5 none ∈ WW := inWW (tb_4 _ (List.mem_of_getElem? (i := 26) rfl)) rfl
theorem ki_X0_addNew : Cond.instanceMethod yX0_addNew ∈ WW := inWW (tb_4 _ (List.mem_of_getElem? (i := 25) rfl)) rfl
theorem ks_X0_addNew : Cond.selects RX0 yX0_addNew yX0_addNew ∈ WW := inWW (List.mem_append_left _ (List.mem_of_getElem? (i := 21) rfl)) rfl
abbrev wsX0_findStarts : List Cond := .code yX0_findStarts cX0_findStarts 5 none :: WW
theorem kc_X0_findStarts : Cond.code yX0_findStarts cX0_findStarts 5 none ∈ WW := inWW (tb_4 _ (List.mem_of_getElem? (i := 30) rfl)) rfl
theorem ki_X0_findStarts : Cond.instanceMethod yX0_findStarts ∈ WW := inWW (tb_4 _ (List.mem_of_getElem? (i := 29) rfl)) rfl
theorem ks_X0_findStarts : Cond.selects RX0 yX0_findStarts yX0_findStarts ∈ WW := inWW (List.mem_append_left _ (List.mem_of_getElem? (i := 22) rfl)) rfl
abbrev wsX0_addStart : List Cond := .code yX0_addStart cX0_addStart 4 none :: WW
theorem kc_X0_addStart : Cond.code yX0_addStart cX0_addStart 4 none ∈ WW := inWW (tb_4 _ (List.mem_of_getElem? (i := 35) rfl)) rfl
theorem ki_X0_addStart : Cond.instanceMethod yX0_addStart ∈ WW := inWW (tb_4 _ (List.mem_of_getElem? (i := 34) rfl)) rfl
theorem ks_X0_addStart : Cond.selects RX0 yX0_addStart yX0_addStart ∈ WW := inWW (List.mem_append_left _ (List.mem_of_getElem? (i := 23) rfl)) rfl
abbrev wsX1_init : List Cond := .code yX1_init cX1_init 4 none :: WW
theorem kc_X1_init : Cond.code yX1_init cX1_init 4 none ∈ WW := inWW (tb_2 _ (List.mem_of_getElem? (i := 64) rfl)) rfl
theorem ki_X1_init : Cond.instanceMethod yX1_init ∈ WW := inWW (tb_2 _ (List.mem_of_getElem? (i := 63) rfl)) rfl
abbrev wsX1_hasPlace : List Cond := .code yX1_hasPlace cX1_hasPlace 2 (some .boolean) :: WW
theorem kc_X1_hasPlace : Cond.code yX1_hasPlace cX1_hasPlace 2 (some .boolean) ∈ WW := inWW (tb_2 _ (List.mem_of_getElem? (i := 213) rfl)) rfl
theorem ki_X1_hasPlace : Cond.instanceMethod yX1_hasPlace ∈ WW := inWW (tb_2 _ (List.mem_of_getElem? (i := 211) rfl)) rfl
theorem ks_X1_hasPlace : Cond.selects RX1 yX1_hasPlace yX1_hasPlace ∈ WW := inWW (tb_2 _ (List.mem_of_getElem? (i := 212) rfl)) rfl
abbrev wsX1_laidAt : List Cond := .code yX1_laidAt cX1_laidAt 2 (some (.object "CallBoard$Handler")) :: WW
theorem kc_X1_laidAt : Cond.code yX1_laidAt cX1_laidAt 2 (some (.object "CallBoard$Handler")) ∈ WW := inWW (tb_3 _ (List.mem_of_getElem? (i := 61) rfl)) rfl
theorem ki_X1_laidAt : Cond.instanceMethod yX1_laidAt ∈ WW := inWW (tb_3 _ (List.mem_of_getElem? (i := 59) rfl)) rfl
theorem ks_X1_laidAt : Cond.selects RX1 yX1_laidAt yX1_laidAt ∈ WW := inWW (tb_3 _ (List.mem_of_getElem? (i := 60) rfl)) rfl
abbrev wsX1_numberAt : List Cond := .code yX1_numberAt cX1_numberAt 3 (some .int) :: WW
theorem kc_X1_numberAt : Cond.code yX1_numberAt cX1_numberAt 3 (some .int) ∈ WW := inWW (tb_3 _ (List.mem_of_getElem? (i := 57) rfl)) rfl
theorem ki_X1_numberAt : Cond.instanceMethod yX1_numberAt ∈ WW := inWW (tb_3 _ (List.mem_of_getElem? (i := 55) rfl)) rfl
theorem ks_X1_numberAt : Cond.selects RX1 yX1_numberAt yX1_numberAt ∈ WW := inWW (tb_3 _ (List.mem_of_getElem? (i := 56) rfl)) rfl
abbrev wsX1_indexOf : List Cond := .code yX1_indexOf cX1_indexOf 3 (some .int) :: WW
theorem kc_X1_indexOf : Cond.code yX1_indexOf cX1_indexOf 3 (some .int) ∈ WW := inWW (tb_3 _ (List.mem_of_getElem? (i := 229) rfl)) rfl
theorem ki_X1_indexOf : Cond.instanceMethod yX1_indexOf ∈ WW := inWW (tb_3 _ (List.mem_of_getElem? (i := 227) rfl)) rfl
theorem ks_X1_indexOf : Cond.selects RX1 yX1_indexOf yX1_indexOf ∈ WW := inWW (tb_3 _ (List.mem_of_getElem? (i := 228) rfl)) rfl
abbrev wsX1_hasLaidSame : List Cond := .code yX1_hasLaidSame cX1_hasLaidSame 3 (some .boolean) :: WW
theorem kc_X1_hasLaidSame : Cond.code yX1_hasLaidSame cX1_hasLaidSame 3 (some .boolean) ∈ WW := inWW (tb_2 _ (List.mem_of_getElem? (i := 225) rfl)) rfl
theorem ki_X1_hasLaidSame : Cond.instanceMethod yX1_hasLaidSame ∈ WW := inWW (tb_2 _ (List.mem_of_getElem? (i := 223) rfl)) rfl
theorem ks_X1_hasLaidSame : Cond.selects RX1 yX1_hasLaidSame yX1_hasLaidSame ∈ WW := inWW (tb_2 _ (List.mem_of_getElem? (i := 224) rfl)) rfl
abbrev wsX1_putLaid : List Cond := .code yX1_putLaid cX1_putLaid 3 (some .boolean) :: WW
theorem kc_X1_putLaid : Cond.code yX1_putLaid cX1_putLaid 3 (some .boolean) ∈ WW := inWW (tb_2 _ (List.mem_of_getElem? (i := 237) rfl)) rfl
theorem ki_X1_putLaid : Cond.instanceMethod yX1_putLaid ∈ WW := inWW (tb_2 _ (List.mem_of_getElem? (i := 235) rfl)) rfl
theorem ks_X1_putLaid : Cond.selects RX1 yX1_putLaid yX1_putLaid ∈ WW := inWW (tb_2 _ (List.mem_of_getElem? (i := 236) rfl)) rfl
abbrev wsX1_dropLaid : List Cond := .code yX1_dropLaid cX1_dropLaid 4 none :: WW
theorem kc_X1_dropLaid : Cond.code yX1_dropLaid cX1_dropLaid 4 none ∈ WW := inWW (tb_3 _ (List.mem_of_getElem? (i := 33) rfl)) rfl
theorem ki_X1_dropLaid : Cond.instanceMethod yX1_dropLaid ∈ WW := inWW (tb_3 _ (List.mem_of_getElem? (i := 31) rfl)) rfl
theorem ks_X1_dropLaid : Cond.selects RX1 yX1_dropLaid yX1_dropLaid ∈ WW := inWW (tb_3 _ (List.mem_of_getElem? (i := 32) rfl)) rfl
abbrev wsX1_compareLaid : List Cond := .code yX1_compareLaid cX1_compareLaid 3 none :: WW
theorem kc_X1_compareLaid : Cond.code yX1_compareLaid cX1_compareLaid 3 none ∈ WW := inWW (tb_3 _ (List.mem_of_getElem? (i := 1) rfl)) rfl
theorem ki_X1_compareLaid : Cond.instanceMethod yX1_compareLaid ∈ WW := inWW (tb_3 _ (List.mem_of_getElem? (i := 0) rfl)) rfl
theorem ks_X1_compareLaid : Cond.selects RX1 yX1_compareLaid yX1_compareLaid ∈ WW := inWW (List.mem_append_left _ (List.mem_of_getElem? (i := 3) rfl)) rfl
abbrev wsX1_putInOrder : List Cond := .code yX1_putInOrder cX1_putInOrder 4 none :: WW
theorem kc_X1_putInOrder : Cond.code yX1_putInOrder cX1_putInOrder 4 none ∈ WW := inWW (tb_3 _ (List.mem_of_getElem? (i := 14) rfl)) rfl
theorem ki_X1_putInOrder : Cond.instanceMethod yX1_putInOrder ∈ WW := inWW (tb_3 _ (List.mem_of_getElem? (i := 13) rfl)) rfl
theorem ks_X1_putInOrder : Cond.selects RX1 yX1_putInOrder yX1_putInOrder ∈ WW := inWW (List.mem_append_left _ (List.mem_of_getElem? (i := 5) rfl)) rfl
abbrev wsX1_beatenByAny : List Cond := .code yX1_beatenByAny cX1_beatenByAny 4 (some .int) :: WW
theorem kc_X1_beatenByAny : Cond.code yX1_beatenByAny cX1_beatenByAny 4 (some .int) ∈ WW := inWW (tb_3 _ (List.mem_of_getElem? (i := 18) rfl)) rfl
theorem ki_X1_beatenByAny : Cond.instanceMethod yX1_beatenByAny ∈ WW := inWW (tb_3 _ (List.mem_of_getElem? (i := 17) rfl)) rfl
theorem ks_X1_beatenByAny : Cond.selects RX1 yX1_beatenByAny yX1_beatenByAny ∈ WW := inWW (List.mem_append_left _ (List.mem_of_getElem? (i := 6) rfl)) rfl
abbrev wsX1_beatenBy : List Cond := .code yX1_beatenBy cX1_beatenBy 2 (some .int) :: WW
theorem kc_X1_beatenBy : Cond.code yX1_beatenBy cX1_beatenBy 2 (some .int) ∈ WW := inWW (tb_3 _ (List.mem_of_getElem? (i := 186) rfl)) rfl
theorem ki_X1_beatenBy : Cond.instanceMethod yX1_beatenBy ∈ WW := inWW (tb_3 _ (List.mem_of_getElem? (i := 184) rfl)) rfl
theorem ks_X1_beatenBy : Cond.selects RX1 yX1_beatenBy yX1_beatenBy ∈ WW := inWW (tb_3 _ (List.mem_of_getElem? (i := 185) rfl)) rfl
abbrev wsX1_beatersOf : List Cond := .code yX1_beatersOf cX1_beatersOf 4 (some .int) :: WW
theorem kc_X1_beatersOf : Cond.code yX1_beatersOf cX1_beatersOf 4 (some .int) ∈ WW := inWW (tb_3 _ (List.mem_of_getElem? (i := 233) rfl)) rfl
theorem ki_X1_beatersOf : Cond.instanceMethod yX1_beatersOf ∈ WW := inWW (tb_3 _ (List.mem_of_getElem? (i := 231) rfl)) rfl
theorem ks_X1_beatersOf : Cond.selects RX1 yX1_beatersOf yX1_beatersOf ∈ WW := inWW (tb_3 _ (List.mem_of_getElem? (i := 232) rfl)) rfl
abbrev wsX1_takersOf : List Cond := .code yX1_takersOf cX1_takersOf 4 (some .int) :: WW
theorem kc_X1_takersOf : Cond.code yX1_takersOf cX1_takersOf 4 (some .int) ∈ WW := inWW (tb_3 _ (List.mem_of_getElem? (i := 93) rfl)) rfl
theorem ki_X1_takersOf : Cond.instanceMethod yX1_takersOf ∈ WW := inWW (tb_3 _ (List.mem_of_getElem? (i := 91) rfl)) rfl
theorem ks_X1_takersOf : Cond.selects RX1 yX1_takersOf yX1_takersOf ∈ WW := inWW (tb_3 _ (List.mem_of_getElem? (i := 92) rfl)) rfl
abbrev wsX1_plainTakersOf : List Cond := .code yX1_plainTakersOf cX1_plainTakersOf 2 (some .int) :: WW
theorem kc_X1_plainTakersOf : Cond.code yX1_plainTakersOf cX1_plainTakersOf 2 (some .int) ∈ WW := inWW (tb_3 _ (List.mem_of_getElem? (i := 142) rfl)) rfl
theorem ki_X1_plainTakersOf : Cond.instanceMethod yX1_plainTakersOf ∈ WW := inWW (tb_3 _ (List.mem_of_getElem? (i := 140) rfl)) rfl
theorem ks_X1_plainTakersOf : Cond.selects RX1 yX1_plainTakersOf yX1_plainTakersOf ∈ WW := inWW (tb_3 _ (List.mem_of_getElem? (i := 141) rfl)) rfl
abbrev wsX1_takersOfClass : List Cond := .code yX1_takersOfClass cX1_takersOfClass 5 (some .int) :: WW
theorem kc_X1_takersOfClass : Cond.code yX1_takersOfClass cX1_takersOfClass 5 (some .int) ∈ WW := inWW (tb_3 _ (List.mem_of_getElem? (i := 97) rfl)) rfl
theorem ki_X1_takersOfClass : Cond.instanceMethod yX1_takersOfClass ∈ WW := inWW (tb_3 _ (List.mem_of_getElem? (i := 95) rfl)) rfl
theorem ks_X1_takersOfClass : Cond.selects RX1 yX1_takersOfClass yX1_takersOfClass ∈ WW := inWW (tb_3 _ (List.mem_of_getElem? (i := 96) rfl)) rfl
abbrev wsX1_takersOfWeight : List Cond := .code yX1_takersOfWeight cX1_takersOfWeight 5 (some .int) :: WW
theorem kc_X1_takersOfWeight : Cond.code yX1_takersOfWeight cX1_takersOfWeight 5 (some .int) ∈ WW := inWW (tb_3 _ (List.mem_of_getElem? (i := 105) rfl)) rfl
theorem ki_X1_takersOfWeight : Cond.instanceMethod yX1_takersOfWeight ∈ WW := inWW (tb_3 _ (List.mem_of_getElem? (i := 103) rfl)) rfl
theorem ks_X1_takersOfWeight : Cond.selects RX1 yX1_takersOfWeight yX1_takersOfWeight ∈ WW := inWW (tb_3 _ (List.mem_of_getElem? (i := 104) rfl)) rfl
abbrev wsX1_chosenOf : List Cond := .code yX1_chosenOf cX1_chosenOf 4 (some .int) :: WW
theorem kc_X1_chosenOf : Cond.code yX1_chosenOf cX1_chosenOf 4 (some .int) ∈ WW := inWW (tb_3 _ (List.mem_of_getElem? (i := 151) rfl)) rfl
theorem ki_X1_chosenOf : Cond.instanceMethod yX1_chosenOf ∈ WW := inWW (tb_3 _ (List.mem_of_getElem? (i := 149) rfl)) rfl
theorem ks_X1_chosenOf : Cond.selects RX1 yX1_chosenOf yX1_chosenOf ∈ WW := inWW (tb_3 _ (List.mem_of_getElem? (i := 150) rfl)) rfl
abbrev wsX1_lookForRow : List Cond := .code yX1_lookForRow cX1_lookForRow 5 none :: WW
theorem kc_X1_lookForRow : Cond.code yX1_lookForRow cX1_lookForRow 5 none ∈ WW := inWW (tb_3 _ (List.mem_of_getElem? (i := 118) rfl)) rfl
theorem ki_X1_lookForRow : Cond.instanceMethod yX1_lookForRow ∈ WW := inWW (tb_3 _ (List.mem_of_getElem? (i := 116) rfl)) rfl
theorem ks_X1_lookForRow : Cond.selects RX1 yX1_lookForRow yX1_lookForRow ∈ WW := inWW (tb_3 _ (List.mem_of_getElem? (i := 117) rfl)) rfl
abbrev wsX1_pieceOf : List Cond := .code yX1_pieceOf cX1_pieceOf 10 (some .long) :: WW
theorem kc_X1_pieceOf : Cond.code yX1_pieceOf cX1_pieceOf 10 (some .long) ∈ WW := inWW (tb_3 _ (List.mem_of_getElem? (i := 122) rfl)) rfl
theorem ki_X1_pieceOf : Cond.instanceMethod yX1_pieceOf ∈ WW := inWW (tb_3 _ (List.mem_of_getElem? (i := 121) rfl)) rfl
theorem ks_X1_pieceOf : Cond.selects RX1 yX1_pieceOf yX1_pieceOf ∈ WW := inWW (List.mem_append_left _ (List.mem_of_getElem? (i := 10) rfl)) rfl
abbrev wsX2_init : List Cond := .code yX2_init cX2_init 6 none :: WW
theorem kc_X2_init : Cond.code yX2_init cX2_init 6 none ∈ WW := inWW (tb_2 _ (List.mem_of_getElem? (i := 153) rfl)) rfl
theorem ki_X2_init : Cond.instanceMethod yX2_init ∈ WW := inWW (tb_2 _ (List.mem_of_getElem? (i := 152) rfl)) rfl
abbrev wsX2_takesClass : List Cond := .code yX2_takesClass cX2_takesClass 3 (some .boolean) :: WW
theorem kc_X2_takesClass : Cond.code yX2_takesClass cX2_takesClass 3 (some .boolean) ∈ WW := inWW (tb_3 _ (List.mem_of_getElem? (i := 101) rfl)) rfl
theorem ki_X2_takesClass : Cond.instanceMethod yX2_takesClass ∈ WW := inWW (tb_3 _ (List.mem_of_getElem? (i := 99) rfl)) rfl
theorem ks_X2_takesClass : Cond.selects RX2 yX2_takesClass yX2_takesClass ∈ WW := inWW (tb_3 _ (List.mem_of_getElem? (i := 100) rfl)) rfl
abbrev wsX2_takesWeight : List Cond := .code yX2_takesWeight cX2_takesWeight 3 (some .boolean) :: WW
theorem kc_X2_takesWeight : Cond.code yX2_takesWeight cX2_takesWeight 3 (some .boolean) ∈ WW := inWW (tb_3 _ (List.mem_of_getElem? (i := 109) rfl)) rfl
theorem ki_X2_takesWeight : Cond.instanceMethod yX2_takesWeight ∈ WW := inWW (tb_3 _ (List.mem_of_getElem? (i := 107) rfl)) rfl
theorem ks_X2_takesWeight : Cond.selects RX2 yX2_takesWeight yX2_takesWeight ∈ WW := inWW (tb_3 _ (List.mem_of_getElem? (i := 108) rfl)) rfl
abbrev wsX2_firstRefusingPlace : List Cond := .code yX2_firstRefusingPlace cX2_firstRefusingPlace 3 (some .int) :: WW
theorem kc_X2_firstRefusingPlace : Cond.code yX2_firstRefusingPlace cX2_firstRefusingPlace 3 (some .int) ∈ WW := inWW (tb_3 _ (List.mem_of_getElem? (i := 219) rfl)) rfl
theorem ki_X2_firstRefusingPlace : Cond.instanceMethod yX2_firstRefusingPlace ∈ WW := inWW (tb_3 _ (List.mem_of_getElem? (i := 217) rfl)) rfl
theorem ks_X2_firstRefusingPlace : Cond.selects RX2 yX2_firstRefusingPlace yX2_firstRefusingPlace ∈ WW := inWW (tb_3 _ (List.mem_of_getElem? (i := 218) rfl)) rfl
abbrev wsX2_isSameAt : List Cond := .code yX2_isSameAt cX2_isSameAt 3 (some .boolean) :: WW
theorem kc_X2_isSameAt : Cond.code yX2_isSameAt cX2_isSameAt 3 (some .boolean) ∈ WW := inWW (tb_2 _ (List.mem_of_getElem? (i := 233) rfl)) rfl
theorem ki_X2_isSameAt : Cond.instanceMethod yX2_isSameAt ∈ WW := inWW (tb_2 _ (List.mem_of_getElem? (i := 232) rfl)) rfl
theorem ks_X2_isSameAt : Cond.selects RX2 yX2_isSameAt yX2_isSameAt ∈ WW := inWW (List.mem_append_left _ (List.mem_of_getElem? (i := 2) rfl)) rfl
abbrev wsX2_isNarrowerAt : List Cond := .code yX2_isNarrowerAt cX2_isNarrowerAt 3 (some .boolean) :: WW
theorem kc_X2_isNarrowerAt : Cond.code yX2_isNarrowerAt cX2_isNarrowerAt 3 (some .boolean) ∈ WW := inWW (tb_3 _ (List.mem_of_getElem? (i := 9) rfl)) rfl
theorem ki_X2_isNarrowerAt : Cond.instanceMethod yX2_isNarrowerAt ∈ WW := inWW (tb_3 _ (List.mem_of_getElem? (i := 8) rfl)) rfl
theorem ks_X2_isNarrowerAt : Cond.selects RX2 yX2_isNarrowerAt yX2_isNarrowerAt ∈ WW := inWW (List.mem_append_left _ (List.mem_of_getElem? (i := 4) rfl)) rfl
abbrev wsX2_isSameAs : List Cond := .code yX2_isSameAs cX2_isSameAs 3 (some .boolean) :: WW
theorem kc_X2_isSameAs : Cond.code yX2_isSameAs cX2_isSameAs 3 (some .boolean) ∈ WW := inWW (tb_2 _ (List.mem_of_getElem? (i := 229) rfl)) rfl
theorem ki_X2_isSameAs : Cond.instanceMethod yX2_isSameAs ∈ WW := inWW (tb_2 _ (List.mem_of_getElem? (i := 227) rfl)) rfl
theorem ks_X2_isSameAs : Cond.selects RX2 yX2_isSameAs yX2_isSameAs ∈ WW := inWW (tb_2 _ (List.mem_of_getElem? (i := 228) rfl)) rfl
abbrev wsX2_isMoreSpecific : List Cond := .code yX2_isMoreSpecific cX2_isMoreSpecific 4 (some .boolean) :: WW
theorem kc_X2_isMoreSpecific : Cond.code yX2_isMoreSpecific cX2_isMoreSpecific 4 (some .boolean) ∈ WW := inWW (tb_3 _ (List.mem_of_getElem? (i := 5) rfl)) rfl
theorem ki_X2_isMoreSpecific : Cond.instanceMethod yX2_isMoreSpecific ∈ WW := inWW (tb_3 _ (List.mem_of_getElem? (i := 3) rfl)) rfl
theorem ks_X2_isMoreSpecific : Cond.selects RX2 yX2_isMoreSpecific yX2_isMoreSpecific ∈ WW := inWW (tb_3 _ (List.mem_of_getElem? (i := 4) rfl)) rfl
abbrev wsX3_init : List Cond := .code yX3_init cX3_init 1 none :: WW
theorem kc_X3_init : Cond.code yX3_init cX3_init 1 none ∈ WW := inWW (tb_1 _ (List.mem_of_getElem? (i := 101) rfl)) rfl
theorem ki_X3_init : Cond.instanceMethod yX3_init ∈ WW := inWW (tb_1 _ (List.mem_of_getElem? (i := 100) rfl)) rfl
abbrev wsX3_begin : List Cond := .code yX3_begin cX3_begin 1 none :: WW
theorem kc_X3_begin : Cond.code yX3_begin cX3_begin 1 none ∈ WW := inWW (tb_3 _ (List.mem_of_getElem? (i := 77) rfl)) rfl
theorem ki_X3_begin : Cond.instanceMethod yX3_begin ∈ WW := inWW (tb_3 _ (List.mem_of_getElem? (i := 75) rfl)) rfl
theorem ks_X3_begin : Cond.selects RX3 yX3_begin yX3_begin ∈ WW := inWW (tb_3 _ (List.mem_of_getElem? (i := 76) rfl)) rfl
abbrev wsX3_addStep : List Cond := .code yX3_addStep cX3_addStep 2 none :: WW
theorem kc_X3_addStep : Cond.code yX3_addStep cX3_addStep 2 none ∈ WW := inWW (tb_3 _ (List.mem_of_getElem? (i := 114) rfl)) rfl
theorem ki_X3_addStep : Cond.instanceMethod yX3_addStep ∈ WW := inWW (tb_3 _ (List.mem_of_getElem? (i := 112) rfl)) rfl
theorem ks_X3_addStep : Cond.selects RX3 yX3_addStep yX3_addStep ∈ WW := inWW (tb_3 _ (List.mem_of_getElem? (i := 113) rfl)) rfl
abbrev wsX3_endWithValue : List Cond := .code yX3_endWithValue cX3_endWithValue 3 none :: WW
theorem kc_X3_endWithValue : Cond.code yX3_endWithValue cX3_endWithValue 3 none ∈ WW := inWW (tb_3 _ (List.mem_of_getElem? (i := 159) rfl)) rfl
theorem ki_X3_endWithValue : Cond.instanceMethod yX3_endWithValue ∈ WW := inWW (tb_3 _ (List.mem_of_getElem? (i := 157) rfl)) rfl
theorem ks_X3_endWithValue : Cond.selects RX3 yX3_endWithValue yX3_endWithValue ∈ WW := inWW (tb_3 _ (List.mem_of_getElem? (i := 158) rfl)) rfl
abbrev wsX3_endWithFailure : List Cond := .code yX3_endWithFailure cX3_endWithFailure 2 none :: WW
theorem kc_X3_endWithFailure : Cond.code yX3_endWithFailure cX3_endWithFailure 2 none ∈ WW := inWW (tb_3 _ (List.mem_of_getElem? (i := 163) rfl)) rfl
theorem ki_X3_endWithFailure : Cond.instanceMethod yX3_endWithFailure ∈ WW := inWW (tb_3 _ (List.mem_of_getElem? (i := 161) rfl)) rfl
theorem ks_X3_endWithFailure : Cond.selects RX3 yX3_endWithFailure yX3_endWithFailure ∈ WW := inWW (tb_3 _ (List.mem_of_getElem? (i := 162) rfl)) rfl
abbrev wsX4_init : List Cond := .code yX4_init cX4_init 1 none :: WW
theorem kc_X4_init : Cond.code yX4_init cX4_init 1 none ∈ WW := inWW (tb_2 _ (List.mem_of_getElem? (i := 70) rfl)) rfl
theorem ki_X4_init : Cond.instanceMethod yX4_init ∈ WW := inWW (tb_2 _ (List.mem_of_getElem? (i := 69) rfl)) rfl
abbrev wsX4_forget : List Cond := .code yX4_forget cX4_forget 1 none :: WW
theorem kc_X4_forget : Cond.code yX4_forget cX4_forget 1 none ∈ WW := inWW (tb_3 _ (List.mem_of_getElem? (i := 25) rfl)) rfl
theorem ki_X4_forget : Cond.instanceMethod yX4_forget ∈ WW := inWW (tb_3 _ (List.mem_of_getElem? (i := 23) rfl)) rfl
theorem ks_X4_forget : Cond.selects RX4 yX4_forget yX4_forget ∈ WW := inWW (tb_3 _ (List.mem_of_getElem? (i := 24) rfl)) rfl
abbrev wsX4_look : List Cond := .code yX4_look cX4_look 7 none :: WW
theorem kc_X4_look : Cond.code yX4_look cX4_look 7 none ∈ WW := inWW (tb_3 _ (List.mem_of_getElem? (i := 130) rfl)) rfl
theorem ki_X4_look : Cond.instanceMethod yX4_look ∈ WW := inWW (tb_3 _ (List.mem_of_getElem? (i := 128) rfl)) rfl
theorem ks_X4_look : Cond.selects RX4 yX4_look yX4_look ∈ WW := inWW (tb_3 _ (List.mem_of_getElem? (i := 129) rfl)) rfl
abbrev wsX4_find : List Cond := .code yX4_find cX4_find 7 (some .int) :: WW
theorem kc_X4_find : Cond.code yX4_find cX4_find 7 (some .int) ∈ WW := inWW (tb_3 _ (List.mem_of_getElem? (i := 134) rfl)) rfl
theorem ki_X4_find : Cond.instanceMethod yX4_find ∈ WW := inWW (tb_3 _ (List.mem_of_getElem? (i := 133) rfl)) rfl
theorem ks_X4_find : Cond.selects RX4 yX4_find yX4_find ∈ WW := inWW (List.mem_append_left _ (List.mem_of_getElem? (i := 11) rfl)) rfl
abbrev wsX4_makeRoom : List Cond := .code yX4_makeRoom cX4_makeRoom 3 (some .int) :: WW
theorem kc_X4_makeRoom : Cond.code yX4_makeRoom cX4_makeRoom 3 (some .int) ∈ WW := inWW (tb_3 _ (List.mem_of_getElem? (i := 138) rfl)) rfl
theorem ki_X4_makeRoom : Cond.instanceMethod yX4_makeRoom ∈ WW := inWW (tb_3 _ (List.mem_of_getElem? (i := 137) rfl)) rfl
theorem ks_X4_makeRoom : Cond.selects RX4 yX4_makeRoom yX4_makeRoom ∈ WW := inWW (List.mem_append_left _ (List.mem_of_getElem? (i := 12) rfl)) rfl
abbrev wsX5_init : List Cond := .code yX5_init cX5_init 1 none :: WW
theorem kc_X5_init : Cond.code yX5_init cX5_init 1 none ∈ WW := inWW (tb_1 _ (List.mem_of_getElem? (i := 132) rfl)) rfl
theorem ki_X5_init : Cond.instanceMethod yX5_init ∈ WW := inWW (tb_1 _ (List.mem_of_getElem? (i := 131) rfl)) rfl
abbrev wsX5_fillCells : List Cond := .code yX5_fillCells cX5_fillCells 2 none :: WW
theorem kc_X5_fillCells : Cond.code yX5_fillCells cX5_fillCells 2 none ∈ WW := inWW (tb_4 _ (List.mem_of_getElem? (i := 17) rfl)) rfl
theorem ki_X5_fillCells : Cond.instanceMethod yX5_fillCells ∈ WW := inWW (tb_4 _ (List.mem_of_getElem? (i := 16) rfl)) rfl
theorem ks_X5_fillCells : Cond.selects RX5 yX5_fillCells yX5_fillCells ∈ WW := inWW (List.mem_append_left _ (List.mem_of_getElem? (i := 20) rfl)) rfl
abbrev wsX5_findHole : List Cond := .code yX5_findHole cX5_findHole 4 (some .boolean) :: WW
theorem kc_X5_findHole : Cond.code yX5_findHole cX5_findHole 4 (some .boolean) ∈ WW := inWW (tb_4 _ (List.mem_of_getElem? (i := 13) rfl)) rfl
theorem ki_X5_findHole : Cond.instanceMethod yX5_findHole ∈ WW := inWW (tb_4 _ (List.mem_of_getElem? (i := 11) rfl)) rfl
theorem ks_X5_findHole : Cond.selects RX5 yX5_findHole yX5_findHole ∈ WW := inWW (tb_4 _ (List.mem_of_getElem? (i := 12) rfl)) rfl
abbrev wsX5_findDoubt : List Cond := .code yX5_findDoubt cX5_findDoubt 6 (some .boolean) :: WW
theorem kc_X5_findDoubt : Cond.code yX5_findDoubt cX5_findDoubt 6 (some .boolean) ∈ WW := inWW (tb_4 _ (List.mem_of_getElem? (i := 66) rfl)) rfl
theorem ki_X5_findDoubt : Cond.instanceMethod yX5_findDoubt ∈ WW := inWW (tb_4 _ (List.mem_of_getElem? (i := 64) rfl)) rfl
theorem ks_X5_findDoubt : Cond.selects RX5 yX5_findDoubt yX5_findDoubt ∈ WW := inWW (tb_4 _ (List.mem_of_getElem? (i := 65) rfl)) rfl
abbrev wsX5_haveDoubt : List Cond := .code yX5_haveDoubt cX5_haveDoubt 9 (some .boolean) :: WW
theorem kc_X5_haveDoubt : Cond.code yX5_haveDoubt cX5_haveDoubt 9 (some .boolean) ∈ WW := inWW (tb_4 _ (List.mem_of_getElem? (i := 70) rfl)) rfl
theorem ki_X5_haveDoubt : Cond.instanceMethod yX5_haveDoubt ∈ WW := inWW (tb_4 _ (List.mem_of_getElem? (i := 69) rfl)) rfl
theorem ks_X5_haveDoubt : Cond.selects RX5 yX5_haveDoubt yX5_haveDoubt ∈ WW := inWW (List.mem_append_left _ (List.mem_of_getElem? (i := 26) rfl)) rfl
abbrev wsX5_foundAt : List Cond := .code yX5_foundAt cX5_foundAt 3 (some .boolean) :: WW
theorem kc_X5_foundAt : Cond.code yX5_foundAt cX5_foundAt 3 (some .boolean) ∈ WW := inWW (tb_4 _ (List.mem_of_getElem? (i := 49) rfl)) rfl
theorem ki_X5_foundAt : Cond.instanceMethod yX5_foundAt ∈ WW := inWW (tb_4 _ (List.mem_of_getElem? (i := 48) rfl)) rfl
theorem ks_X5_foundAt : Cond.selects RX5 yX5_foundAt yX5_foundAt ∈ WW := inWW (List.mem_append_left _ (List.mem_of_getElem? (i := 25) rfl)) rfl
abbrev wsX5_partOfTuple : List Cond := .code yX5_partOfTuple cX5_partOfTuple 2 (some .int) :: WW
theorem kc_X5_partOfTuple : Cond.code yX5_partOfTuple cX5_partOfTuple 2 (some .int) ∈ WW := inWW (tb_4 _ (List.mem_of_getElem? (i := 58) rfl)) rfl
theorem ki_X5_partOfTuple : Cond.instanceMethod yX5_partOfTuple ∈ WW := inWW (tb_4 _ (List.mem_of_getElem? (i := 56) rfl)) rfl
theorem ks_X5_partOfTuple : Cond.selects RX5 yX5_partOfTuple yX5_partOfTuple ∈ WW := inWW (tb_4 _ (List.mem_of_getElem? (i := 57) rfl)) rfl
abbrev wsX6_init : List Cond := .code yX6_init cX6_init 1 none :: WW
theorem kc_X6_init : Cond.code yX6_init cX6_init 1 none ∈ WW := inWW (tb_1 _ (List.mem_of_getElem? (i := 78) rfl)) rfl
theorem ki_X6_init : Cond.instanceMethod yX6_init ∈ WW := inWW (tb_1 _ (List.mem_of_getElem? (i := 77) rfl)) rfl
abbrev wsX6_weightTogether : List Cond := .code yX6_weightTogether cX6_weightTogether 4 (some .long) :: WW
theorem kc_X6_weightTogether : Cond.code yX6_weightTogether cX6_weightTogether 4 (some .long) ∈ WW := inWW (tb_3 _ (List.mem_of_getElem? (i := 89) rfl)) rfl
theorem ki_X6_weightTogether : Cond.instanceMethod yX6_weightTogether ∈ WW := inWW (tb_3 _ (List.mem_of_getElem? (i := 87) rfl)) rfl
theorem ks_X6_weightTogether : Cond.selects RX6 yX6_weightTogether yX6_weightTogether ∈ WW := inWW (tb_3 _ (List.mem_of_getElem? (i := 88) rfl)) rfl
abbrev wsX6_turnRound : List Cond := .code yX6_turnRound cX6_turnRound 3 none :: WW
theorem kc_X6_turnRound : Cond.code yX6_turnRound cX6_turnRound 3 none ∈ WW := inWW (tb_3 _ (List.mem_of_getElem? (i := 182) rfl)) rfl
theorem ki_X6_turnRound : Cond.instanceMethod yX6_turnRound ∈ WW := inWW (tb_3 _ (List.mem_of_getElem? (i := 180) rfl)) rfl
theorem ks_X6_turnRound : Cond.selects RX6 yX6_turnRound yX6_turnRound ∈ WW := inWW (tb_3 _ (List.mem_of_getElem? (i := 181) rfl)) rfl
abbrev wsX7_init : List Cond := .code yX7_init cX7_init 1 none :: WW
theorem kc_X7_init : Cond.code yX7_init cX7_init 1 none ∈ WW := inWW (tb_1 _ (List.mem_of_getElem? (i := 55) rfl)) rfl
theorem ki_X7_init : Cond.instanceMethod yX7_init ∈ WW := inWW (tb_1 _ (List.mem_of_getElem? (i := 54) rfl)) rfl
abbrev wsX7_holds : List Cond := .code yX7_holds cX7_holds 2 (some .boolean) :: WW
theorem kc_X7_holds : Cond.code yX7_holds cX7_holds 2 (some .boolean) ∈ WW := inWW (tb_2 _ (List.mem_of_getElem? (i := 52) rfl)) rfl
theorem ki_X7_holds : Cond.instanceMethod yX7_holds ∈ WW := inWW (tb_2 _ (List.mem_of_getElem? (i := 50) rfl)) rfl
theorem ks_X7_holds : Cond.selects RX7 yX7_holds yX7_holds ∈ WW := inWW (tb_2 _ (List.mem_of_getElem? (i := 51) rfl)) rfl
abbrev wsX7_bring : List Cond := .code yX7_bring cX7_bring 3 (some .int) :: WW
theorem kc_X7_bring : Cond.code yX7_bring cX7_bring 3 (some .int) ∈ WW := inWW (tb_2 _ (List.mem_of_getElem? (i := 44) rfl)) rfl
theorem ki_X7_bring : Cond.instanceMethod yX7_bring ∈ WW := inWW (tb_2 _ (List.mem_of_getElem? (i := 42) rfl)) rfl
theorem ks_X7_bring : Cond.selects RX7 yX7_bring yX7_bring ∈ WW := inWW (tb_2 _ (List.mem_of_getElem? (i := 43) rfl)) rfl
abbrev wsX8_init : List Cond := .code yX8_init cX8_init 1 none :: WW
theorem kc_X8_init : Cond.code yX8_init cX8_init 1 none ∈ WW := inWW (tb_1 _ (List.mem_of_getElem? (i := 26) rfl)) rfl
theorem ki_X8_init : Cond.instanceMethod yX8_init ∈ WW := inWW (tb_1 _ (List.mem_of_getElem? (i := 25) rfl)) rfl
abbrev wsX8_addTrait : List Cond := .code yX8_addTrait cX8_addTrait 4 (some .int) :: WW
theorem kc_X8_addTrait : Cond.code yX8_addTrait cX8_addTrait 4 (some .int) ∈ WW := inWW (tb_2 _ (List.mem_of_getElem? (i := 1) rfl)) rfl
theorem ki_X8_addTrait : Cond.instanceMethod yX8_addTrait ∈ WW := inWW (tb_1 _ (List.mem_of_getElem? (i := 239) rfl)) rfl
theorem ks_X8_addTrait : Cond.selects RX8 yX8_addTrait yX8_addTrait ∈ WW := inWW (tb_2 _ (List.mem_of_getElem? (i := 0) rfl)) rfl
abbrev wsX8_isAbstract : List Cond := .code yX8_isAbstract cX8_isAbstract 2 (some .boolean) :: WW
theorem kc_X8_isAbstract : Cond.code yX8_isAbstract cX8_isAbstract 2 (some .boolean) ∈ WW := inWW (tb_2 _ (List.mem_of_getElem? (i := 13) rfl)) rfl
theorem ki_X8_isAbstract : Cond.instanceMethod yX8_isAbstract ∈ WW := inWW (tb_2 _ (List.mem_of_getElem? (i := 11) rfl)) rfl
theorem ks_X8_isAbstract : Cond.selects RX8 yX8_isAbstract yX8_isAbstract ∈ WW := inWW (tb_2 _ (List.mem_of_getElem? (i := 12) rfl)) rfl
abbrev wsX8_findReach : List Cond := .code yX8_findReach cX8_findReach 3 none :: WW
theorem kc_X8_findReach : Cond.code yX8_findReach cX8_findReach 3 none ∈ WW := inWW (tb_2 _ (List.mem_of_getElem? (i := 21) rfl)) rfl
theorem ki_X8_findReach : Cond.instanceMethod yX8_findReach ∈ WW := inWW (tb_2 _ (List.mem_of_getElem? (i := 19) rfl)) rfl
theorem ks_X8_findReach : Cond.selects RX8 yX8_findReach yX8_findReach ∈ WW := inWW (tb_2 _ (List.mem_of_getElem? (i := 20) rfl)) rfl
abbrev wsX8_goesRound : List Cond := .code yX8_goesRound cX8_goesRound 2 (some .boolean) :: WW
theorem kc_X8_goesRound : Cond.code yX8_goesRound cX8_goesRound 2 (some .boolean) ∈ WW := inWW (tb_2 _ (List.mem_of_getElem? (i := 25) rfl)) rfl
theorem ki_X8_goesRound : Cond.instanceMethod yX8_goesRound ∈ WW := inWW (tb_2 _ (List.mem_of_getElem? (i := 23) rfl)) rfl
theorem ks_X8_goesRound : Cond.selects RX8 yX8_goesRound yX8_goesRound ∈ WW := inWW (tb_2 _ (List.mem_of_getElem? (i := 24) rfl)) rfl
abbrev wsX8_isBelow : List Cond := .code yX8_isBelow cX8_isBelow 3 (some .boolean) :: WW
theorem kc_X8_isBelow : Cond.code yX8_isBelow cX8_isBelow 3 (some .boolean) ∈ WW := inWW (tb_2 _ (List.mem_of_getElem? (i := 36) rfl)) rfl
theorem ki_X8_isBelow : Cond.instanceMethod yX8_isBelow ∈ WW := inWW (tb_2 _ (List.mem_of_getElem? (i := 34) rfl)) rfl
theorem ks_X8_isBelow : Cond.selects RX8 yX8_isBelow yX8_isBelow ∈ WW := inWW (tb_2 _ (List.mem_of_getElem? (i := 35) rfl)) rfl
abbrev wsX9_init : List Cond := .code yX9_init cX9_init 1 none :: WW
theorem kc_X9_init : Cond.code yX9_init cX9_init 1 none ∈ WW := inWW (tb_1 _ (List.mem_of_getElem? (i := 18) rfl)) rfl
theorem ki_X9_init : Cond.instanceMethod yX9_init ∈ WW := inWW (tb_1 _ (List.mem_of_getElem? (i := 17) rfl)) rfl
abbrev wsX9_parent : List Cond := .code yX9_parent cX9_parent 3 (some .int) :: WW
theorem kc_X9_parent : Cond.code yX9_parent cX9_parent 3 (some .int) ∈ WW := inWW (tb_1 _ (List.mem_of_getElem? (i := 227) rfl)) rfl
theorem ki_X9_parent : Cond.instanceMethod yX9_parent ∈ WW := inWW (tb_1 _ (List.mem_of_getElem? (i := 225) rfl)) rfl
theorem ks_X9_parent : Cond.selects RX9 yX9_parent yX9_parent ∈ WW := inWW (tb_1 _ (List.mem_of_getElem? (i := 226) rfl)) rfl
abbrev wsX9_trait : List Cond := .code yX9_trait cX9_trait 3 (some .int) :: WW
theorem kc_X9_trait : Cond.code yX9_trait cX9_trait 3 (some .int) ∈ WW := inWW (tb_1 _ (List.mem_of_getElem? (i := 234) rfl)) rfl
theorem ki_X9_trait : Cond.instanceMethod yX9_trait ∈ WW := inWW (tb_1 _ (List.mem_of_getElem? (i := 232) rfl)) rfl
theorem ks_X9_trait : Cond.selects RX9 yX9_trait yX9_trait ∈ WW := inWW (tb_1 _ (List.mem_of_getElem? (i := 233) rfl)) rfl
abbrev wsX9_has : List Cond := .code yX9_has cX9_has 3 (some .int) :: WW
theorem kc_X9_has : Cond.code yX9_has cX9_has 3 (some .int) ∈ WW := inWW (tb_2 _ (List.mem_of_getElem? (i := 5) rfl)) rfl
theorem ki_X9_has : Cond.instanceMethod yX9_has ∈ WW := inWW (tb_2 _ (List.mem_of_getElem? (i := 3) rfl)) rfl
theorem ks_X9_has : Cond.selects RX9 yX9_has yX9_has ∈ WW := inWW (tb_2 _ (List.mem_of_getElem? (i := 4) rfl)) rfl
abbrev wsX9_flag : List Cond := .code yX9_flag cX9_flag 2 (some .int) :: WW
theorem kc_X9_flag : Cond.code yX9_flag cX9_flag 2 (some .int) ∈ WW := inWW (tb_2 _ (List.mem_of_getElem? (i := 9) rfl)) rfl
theorem ki_X9_flag : Cond.instanceMethod yX9_flag ∈ WW := inWW (tb_2 _ (List.mem_of_getElem? (i := 7) rfl)) rfl
theorem ks_X9_flag : Cond.selects RX9 yX9_flag yX9_flag ∈ WW := inWW (tb_2 _ (List.mem_of_getElem? (i := 8) rfl)) rfl
abbrev wsX9_close : List Cond := .code yX9_close cX9_close 1 (some .int) :: WW
theorem kc_X9_close : Cond.code yX9_close cX9_close 1 (some .int) ∈ WW := inWW (tb_2 _ (List.mem_of_getElem? (i := 17) rfl)) rfl
theorem ki_X9_close : Cond.instanceMethod yX9_close ∈ WW := inWW (tb_2 _ (List.mem_of_getElem? (i := 15) rfl)) rfl
theorem ks_X9_close : Cond.selects RX9 yX9_close yX9_close ∈ WW := inWW (tb_2 _ (List.mem_of_getElem? (i := 16) rfl)) rfl
abbrev wsX9_below : List Cond := .code yX9_below cX9_below 3 (some .boolean) :: WW
theorem kc_X9_below : Cond.code yX9_below cX9_below 3 (some .boolean) ∈ WW := inWW (tb_2 _ (List.mem_of_getElem? (i := 29) rfl)) rfl
theorem ki_X9_below : Cond.instanceMethod yX9_below ∈ WW := inWW (tb_2 _ (List.mem_of_getElem? (i := 27) rfl)) rfl
theorem ks_X9_below : Cond.selects RX9 yX9_below yX9_below ∈ WW := inWW (tb_2 _ (List.mem_of_getElem? (i := 28) rfl)) rfl
abbrev wsX9_sample : List Cond := .code yX9_sample cX9_sample 4 (some .int) :: WW
theorem kc_X9_sample : Cond.code yX9_sample cX9_sample 4 (some .int) ∈ WW := inWW (tb_2 _ (List.mem_of_getElem? (i := 40) rfl)) rfl
theorem ki_X9_sample : Cond.instanceMethod yX9_sample ∈ WW := inWW (tb_2 _ (List.mem_of_getElem? (i := 38) rfl)) rfl
theorem ks_X9_sample : Cond.selects RX9 yX9_sample yX9_sample ∈ WW := inWW (tb_2 _ (List.mem_of_getElem? (i := 39) rfl)) rfl
abbrev wsX9_of : List Cond := .code yX9_of cX9_of 3 (some .int) :: WW
theorem kc_X9_of : Cond.code yX9_of cX9_of 3 (some .int) ∈ WW := inWW (tb_2 _ (List.mem_of_getElem? (i := 48) rfl)) rfl
theorem ki_X9_of : Cond.instanceMethod yX9_of ∈ WW := inWW (tb_2 _ (List.mem_of_getElem? (i := 46) rfl)) rfl
theorem ks_X9_of : Cond.selects RX9 yX9_of yX9_of ∈ WW := inWW (tb_2 _ (List.mem_of_getElem? (i := 47) rfl)) rfl
abbrev wsX9_samples : List Cond := .code yX9_samples cX9_samples 1 (some .int) :: WW
theorem kc_X9_samples : Cond.code yX9_samples cX9_samples 1 (some .int) ∈ WW := inWW (tb_2 _ (List.mem_of_getElem? (i := 56) rfl)) rfl
theorem ki_X9_samples : Cond.instanceMethod yX9_samples ∈ WW := inWW (tb_2 _ (List.mem_of_getElem? (i := 54) rfl)) rfl
theorem ks_X9_samples : Cond.selects RX9 yX9_samples yX9_samples ∈ WW := inWW (tb_2 _ (List.mem_of_getElem? (i := 55) rfl)) rfl
abbrev wsX9_function : List Cond := .code yX9_function cX9_function 2 (some .int) :: WW
theorem kc_X9_function : Cond.code yX9_function cX9_function 2 (some .int) ∈ WW := inWW (tb_2 _ (List.mem_of_getElem? (i := 60) rfl)) rfl
theorem ki_X9_function : Cond.instanceMethod yX9_function ∈ WW := inWW (tb_2 _ (List.mem_of_getElem? (i := 58) rfl)) rfl
theorem ks_X9_function : Cond.selects RX9 yX9_function yX9_function ∈ WW := inWW (tb_2 _ (List.mem_of_getElem? (i := 59) rfl)) rfl
abbrev wsX9_handler : List Cond := .code yX9_handler cX9_handler 6 (some .int) :: WW
theorem kc_X9_handler : Cond.code yX9_handler cX9_handler 6 (some .int) ∈ WW := inWW (tb_2 _ (List.mem_of_getElem? (i := 145) rfl)) rfl
theorem ki_X9_handler : Cond.instanceMethod yX9_handler ∈ WW := inWW (tb_2 _ (List.mem_of_getElem? (i := 143) rfl)) rfl
theorem ks_X9_handler : Cond.selects RX9 yX9_handler yX9_handler ∈ WW := inWW (tb_2 _ (List.mem_of_getElem? (i := 144) rfl)) rfl
abbrev wsX9_place : List Cond := .code yX9_place cX9_place 5 (some .int) :: WW
theorem kc_X9_place : Cond.code yX9_place cX9_place 5 (some .int) ∈ WW := inWW (tb_2 _ (List.mem_of_getElem? (i := 205) rfl)) rfl
theorem ki_X9_place : Cond.instanceMethod yX9_place ∈ WW := inWW (tb_2 _ (List.mem_of_getElem? (i := 203) rfl)) rfl
theorem ks_X9_place : Cond.selects RX9 yX9_place yX9_place ∈ WW := inWW (tb_2 _ (List.mem_of_getElem? (i := 204) rfl)) rfl
abbrev wsX9_test : List Cond := .code yX9_test cX9_test 6 (some .int) :: WW
theorem kc_X9_test : Cond.code yX9_test cX9_test 6 (some .int) ∈ WW := inWW (tb_2 _ (List.mem_of_getElem? (i := 217) rfl)) rfl
theorem ki_X9_test : Cond.instanceMethod yX9_test ∈ WW := inWW (tb_2 _ (List.mem_of_getElem? (i := 215) rfl)) rfl
theorem ks_X9_test : Cond.selects RX9 yX9_test yX9_test ∈ WW := inWW (tb_2 _ (List.mem_of_getElem? (i := 216) rfl)) rfl
abbrev wsX9_lay : List Cond := .code yX9_lay cX9_lay 4 (some .int) :: WW
theorem kc_X9_lay : Cond.code yX9_lay cX9_lay 4 (some .int) ∈ WW := inWW (tb_2 _ (List.mem_of_getElem? (i := 221) rfl)) rfl
theorem ki_X9_lay : Cond.instanceMethod yX9_lay ∈ WW := inWW (tb_2 _ (List.mem_of_getElem? (i := 219) rfl)) rfl
theorem ks_X9_lay : Cond.selects RX9 yX9_lay yX9_lay ∈ WW := inWW (tb_2 _ (List.mem_of_getElem? (i := 220) rfl)) rfl
abbrev wsX9_lift : List Cond := .code yX9_lift cX9_lift 3 (some .int) :: WW
theorem kc_X9_lift : Cond.code yX9_lift cX9_lift 3 (some .int) ∈ WW := inWW (tb_3 _ (List.mem_of_getElem? (i := 29) rfl)) rfl
theorem ki_X9_lift : Cond.instanceMethod yX9_lift ∈ WW := inWW (tb_3 _ (List.mem_of_getElem? (i := 27) rfl)) rfl
theorem ks_X9_lift : Cond.selects RX9 yX9_lift yX9_lift ∈ WW := inWW (tb_3 _ (List.mem_of_getElem? (i := 28) rfl)) rfl
abbrev wsX9_freeze : List Cond := .code yX9_freeze cX9_freeze 4 (some .int) :: WW
theorem kc_X9_freeze : Cond.code yX9_freeze cX9_freeze 4 (some .int) ∈ WW := inWW (tb_3 _ (List.mem_of_getElem? (i := 37) rfl)) rfl
theorem ki_X9_freeze : Cond.instanceMethod yX9_freeze ∈ WW := inWW (tb_3 _ (List.mem_of_getElem? (i := 35) rfl)) rfl
theorem ks_X9_freeze : Cond.selects RX9 yX9_freeze yX9_freeze ∈ WW := inWW (tb_3 _ (List.mem_of_getElem? (i := 36) rfl)) rfl
abbrev wsX9_about : List Cond := .code yX9_about cX9_about 4 (some .int) :: WW
theorem kc_X9_about : Cond.code yX9_about cX9_about 4 (some .int) ∈ WW := inWW (tb_3 _ (List.mem_of_getElem? (i := 41) rfl)) rfl
theorem ki_X9_about : Cond.instanceMethod yX9_about ∈ WW := inWW (tb_3 _ (List.mem_of_getElem? (i := 39) rfl)) rfl
theorem ks_X9_about : Cond.selects RX9 yX9_about yX9_about ∈ WW := inWW (tb_3 _ (List.mem_of_getElem? (i := 40) rfl)) rfl
abbrev wsX9_dominates : List Cond := .code yX9_dominates cX9_dominates 5 (some .boolean) :: WW
theorem kc_X9_dominates : Cond.code yX9_dominates cX9_dominates 5 (some .boolean) ∈ WW := inWW (tb_3 _ (List.mem_of_getElem? (i := 48) rfl)) rfl
theorem ki_X9_dominates : Cond.instanceMethod yX9_dominates ∈ WW := inWW (tb_3 _ (List.mem_of_getElem? (i := 46) rfl)) rfl
theorem ks_X9_dominates : Cond.selects RX9 yX9_dominates yX9_dominates ∈ WW := inWW (tb_3 _ (List.mem_of_getElem? (i := 47) rfl)) rfl
abbrev wsX9_order : List Cond := .code yX9_order cX9_order 4 (some .int) :: WW
theorem kc_X9_order : Cond.code yX9_order cX9_order 4 (some .int) ∈ WW := inWW (tb_3 _ (List.mem_of_getElem? (i := 53) rfl)) rfl
theorem ki_X9_order : Cond.instanceMethod yX9_order ∈ WW := inWW (tb_3 _ (List.mem_of_getElem? (i := 51) rfl)) rfl
theorem ks_X9_order : Cond.selects RX9 yX9_order yX9_order ∈ WW := inWW (tb_3 _ (List.mem_of_getElem? (i := 52) rfl)) rfl
abbrev wsX9_arg : List Cond := .code yX9_arg cX9_arg 3 (some .int) :: WW
theorem kc_X9_arg : Cond.code yX9_arg cX9_arg 3 (some .int) ∈ WW := inWW (tb_3 _ (List.mem_of_getElem? (i := 65) rfl)) rfl
theorem ki_X9_arg : Cond.instanceMethod yX9_arg ∈ WW := inWW (tb_3 _ (List.mem_of_getElem? (i := 63) rfl)) rfl
theorem ks_X9_arg : Cond.selects RX9 yX9_arg yX9_arg ∈ WW := inWW (tb_3 _ (List.mem_of_getElem? (i := 64) rfl)) rfl
abbrev wsX9_call : List Cond := .code yX9_call cX9_call 5 (some .int) :: WW
theorem kc_X9_call : Cond.code yX9_call cX9_call 5 (some .int) ∈ WW := inWW (tb_3 _ (List.mem_of_getElem? (i := 69) rfl)) rfl
theorem ki_X9_call : Cond.instanceMethod yX9_call ∈ WW := inWW (tb_3 _ (List.mem_of_getElem? (i := 67) rfl)) rfl
theorem ks_X9_call : Cond.selects RX9 yX9_call yX9_call ∈ WW := inWW (tb_3 _ (List.mem_of_getElem? (i := 68) rfl)) rfl
abbrev wsX9_value : List Cond := .code yX9_value cX9_value 1 (some .long) :: WW
theorem kc_X9_value : Cond.code yX9_value cX9_value 1 (some .long) ∈ WW := inWW (tb_3 _ (List.mem_of_getElem? (i := 190) rfl)) rfl
theorem ki_X9_value : Cond.instanceMethod yX9_value ∈ WW := inWW (tb_3 _ (List.mem_of_getElem? (i := 188) rfl)) rfl
theorem ks_X9_value : Cond.selects RX9 yX9_value yX9_value ∈ WW := inWW (tb_3 _ (List.mem_of_getElem? (i := 189) rfl)) rfl
abbrev wsX9_failure : List Cond := .code yX9_failure cX9_failure 1 (some .int) :: WW
theorem kc_X9_failure : Cond.code yX9_failure cX9_failure 1 (some .int) ∈ WW := inWW (tb_3 _ (List.mem_of_getElem? (i := 194) rfl)) rfl
theorem ki_X9_failure : Cond.instanceMethod yX9_failure ∈ WW := inWW (tb_3 _ (List.mem_of_getElem? (i := 192) rfl)) rfl
theorem ks_X9_failure : Cond.selects RX9 yX9_failure yX9_failure ∈ WW := inWW (tb_3 _ (List.mem_of_getElem? (i := 193) rfl)) rfl
abbrev wsX9_step : List Cond := .code yX9_step cX9_step 2 (some .int) :: WW
theorem kc_X9_step : Cond.code yX9_step cX9_step 2 (some .int) ∈ WW := inWW (tb_3 _ (List.mem_of_getElem? (i := 198) rfl)) rfl
theorem ki_X9_step : Cond.instanceMethod yX9_step ∈ WW := inWW (tb_3 _ (List.mem_of_getElem? (i := 196) rfl)) rfl
theorem ks_X9_step : Cond.selects RX9 yX9_step yX9_step ∈ WW := inWW (tb_3 _ (List.mem_of_getElem? (i := 197) rfl)) rfl
abbrev wsX9_counter : List Cond := .code yX9_counter cX9_counter 2 (some .int) :: WW
theorem kc_X9_counter : Cond.code yX9_counter cX9_counter 2 (some .int) ∈ WW := inWW (tb_3 _ (List.mem_of_getElem? (i := 202) rfl)) rfl
theorem ki_X9_counter : Cond.instanceMethod yX9_counter ∈ WW := inWW (tb_3 _ (List.mem_of_getElem? (i := 200) rfl)) rfl
theorem ks_X9_counter : Cond.selects RX9 yX9_counter yX9_counter ∈ WW := inWW (tb_3 _ (List.mem_of_getElem? (i := 201) rfl)) rfl
abbrev wsX9_applicable : List Cond := .code yX9_applicable cX9_applicable 4 (some .int) :: WW
theorem kc_X9_applicable : Cond.code yX9_applicable cX9_applicable 4 (some .int) ∈ WW := inWW (tb_3 _ (List.mem_of_getElem? (i := 206) rfl)) rfl
theorem ki_X9_applicable : Cond.instanceMethod yX9_applicable ∈ WW := inWW (tb_3 _ (List.mem_of_getElem? (i := 204) rfl)) rfl
theorem ks_X9_applicable : Cond.selects RX9 yX9_applicable yX9_applicable ∈ WW := inWW (tb_3 _ (List.mem_of_getElem? (i := 205) rfl)) rfl
abbrev wsX9_most : List Cond := .code yX9_most cX9_most 3 (some .int) :: WW
theorem kc_X9_most : Cond.code yX9_most cX9_most 3 (some .int) ∈ WW := inWW (tb_3 _ (List.mem_of_getElem? (i := 211) rfl)) rfl
theorem ki_X9_most : Cond.instanceMethod yX9_most ∈ WW := inWW (tb_3 _ (List.mem_of_getElem? (i := 209) rfl)) rfl
theorem ks_X9_most : Cond.selects RX9 yX9_most yX9_most ∈ WW := inWW (tb_3 _ (List.mem_of_getElem? (i := 210) rfl)) rfl
abbrev wsX9_explain : List Cond := .code yX9_explain cX9_explain 4 (some .int) :: WW
theorem kc_X9_explain : Cond.code yX9_explain cX9_explain 4 (some .int) ∈ WW := inWW (tb_3 _ (List.mem_of_getElem? (i := 215) rfl)) rfl
theorem ki_X9_explain : Cond.instanceMethod yX9_explain ∈ WW := inWW (tb_3 _ (List.mem_of_getElem? (i := 213) rfl)) rfl
theorem ks_X9_explain : Cond.selects RX9 yX9_explain yX9_explain ∈ WW := inWW (tb_3 _ (List.mem_of_getElem? (i := 214) rfl)) rfl
abbrev wsX9_where : List Cond := .code yX9_where cX9_where 1 (some .int) :: WW
theorem kc_X9_where : Cond.code yX9_where cX9_where 1 (some .int) ∈ WW := inWW (tb_3 _ (List.mem_of_getElem? (i := 237) rfl)) rfl
theorem ki_X9_where : Cond.instanceMethod yX9_where ∈ WW := inWW (tb_3 _ (List.mem_of_getElem? (i := 235) rfl)) rfl
theorem ks_X9_where : Cond.selects RX9 yX9_where yX9_where ∈ WW := inWW (tb_3 _ (List.mem_of_getElem? (i := 236) rfl)) rfl
abbrev wsX9_count : List Cond := .code yX9_count cX9_count 4 (some .int) :: WW
theorem kc_X9_count : Cond.code yX9_count cX9_count 4 (some .int) ∈ WW := inWW (tb_4 _ (List.mem_of_getElem? (i := 1) rfl)) rfl
theorem ki_X9_count : Cond.instanceMethod yX9_count ∈ WW := inWW (tb_3 _ (List.mem_of_getElem? (i := 239) rfl)) rfl
theorem ks_X9_count : Cond.selects RX9 yX9_count yX9_count ∈ WW := inWW (tb_4 _ (List.mem_of_getElem? (i := 0) rfl)) rfl
abbrev wsX9_covered : List Cond := .code yX9_covered cX9_covered 3 (some .int) :: WW
theorem kc_X9_covered : Cond.code yX9_covered cX9_covered 3 (some .int) ∈ WW := inWW (tb_4 _ (List.mem_of_getElem? (i := 9) rfl)) rfl
theorem ki_X9_covered : Cond.instanceMethod yX9_covered ∈ WW := inWW (tb_4 _ (List.mem_of_getElem? (i := 7) rfl)) rfl
theorem ks_X9_covered : Cond.selects RX9 yX9_covered yX9_covered ∈ WW := inWW (tb_4 _ (List.mem_of_getElem? (i := 8) rfl)) rfl
abbrev wsX9_hole : List Cond := .code yX9_hole cX9_hole 4 (some .long) :: WW
theorem kc_X9_hole : Cond.code yX9_hole cX9_hole 4 (some .long) ∈ WW := inWW (tb_4 _ (List.mem_of_getElem? (i := 53) rfl)) rfl
theorem ki_X9_hole : Cond.instanceMethod yX9_hole ∈ WW := inWW (tb_4 _ (List.mem_of_getElem? (i := 51) rfl)) rfl
theorem ks_X9_hole : Cond.selects RX9 yX9_hole yX9_hole ∈ WW := inWW (tb_4 _ (List.mem_of_getElem? (i := 52) rfl)) rfl
abbrev wsX9_doubt : List Cond := .code yX9_doubt cX9_doubt 5 (some .long) :: WW
theorem kc_X9_doubt : Cond.code yX9_doubt cX9_doubt 5 (some .long) ∈ WW := inWW (tb_4 _ (List.mem_of_getElem? (i := 62) rfl)) rfl
theorem ki_X9_doubt : Cond.instanceMethod yX9_doubt ∈ WW := inWW (tb_4 _ (List.mem_of_getElem? (i := 60) rfl)) rfl
theorem ks_X9_doubt : Cond.selects RX9 yX9_doubt yX9_doubt ∈ WW := inWW (tb_4 _ (List.mem_of_getElem? (i := 61) rfl)) rfl
abbrev wsX9_isClass : List Cond := .code yX9_isClass cX9_isClass 1 (some .boolean) :: WW
theorem kc_X9_isClass : Cond.code yX9_isClass cX9_isClass 1 (some .boolean) ∈ WW := inWW (tb_1 _ (List.mem_of_getElem? (i := 230) rfl)) rfl
theorem kt_X9_isClass : Cond.static yX9_isClass ∈ WW := inWW (tb_1 _ (List.mem_of_getElem? (i := 229) rfl)) rfl
abbrev wsX9_isTrait : List Cond := .code yX9_isTrait cX9_isTrait 1 (some .boolean) :: WW
theorem kc_X9_isTrait : Cond.code yX9_isTrait cX9_isTrait 1 (some .boolean) ∈ WW := inWW (tb_1 _ (List.mem_of_getElem? (i := 237) rfl)) rfl
theorem kt_X9_isTrait : Cond.static yX9_isTrait ∈ WW := inWW (tb_1 _ (List.mem_of_getElem? (i := 236) rfl)) rfl
abbrev wsX9_isCode : List Cond := .code yX9_isCode cX9_isCode 1 (some .boolean) :: WW
theorem kc_X9_isCode : Cond.code yX9_isCode cX9_isCode 1 (some .boolean) ∈ WW := inWW (tb_2 _ (List.mem_of_getElem? (i := 32) rfl)) rfl
theorem kt_X9_isCode : Cond.static yX9_isCode ∈ WW := inWW (tb_2 _ (List.mem_of_getElem? (i := 31) rfl)) rfl
abbrev wsX9_elementOrZero : List Cond := .code yX9_elementOrZero cX9_elementOrZero 2 (some .int) :: WW
theorem kc_X9_elementOrZero : Cond.code yX9_elementOrZero cX9_elementOrZero 2 (some .int) ∈ WW := inWW (tb_3 _ (List.mem_of_getElem? (i := 44) rfl)) rfl
theorem kt_X9_elementOrZero : Cond.static yX9_elementOrZero ∈ WW := inWW (tb_3 _ (List.mem_of_getElem? (i := 43) rfl)) rfl
abbrev wsX9_memberAt : List Cond := .code yX9_memberAt cX9_memberAt 4 (some .int) :: WW
theorem kc_X9_memberAt : Cond.code yX9_memberAt cX9_memberAt 4 (some .int) ∈ WW := inWW (tb_3 _ (List.mem_of_getElem? (i := 21) rfl)) rfl
theorem kt_X9_memberAt : Cond.static yX9_memberAt ∈ WW := inWW (tb_3 _ (List.mem_of_getElem? (i := 20) rfl)) rfl
abbrev wsX9_functionAt : List Cond := .code yX9_functionAt cX9_functionAt 2 (some (.object "CallBoard$Function")) :: WW
theorem kc_X9_functionAt : Cond.code yX9_functionAt cX9_functionAt 2 (some (.object "CallBoard$Function")) ∈ WW := inWW (tb_2 _ (List.mem_of_getElem? (i := 149) rfl)) rfl
theorem ki_X9_functionAt : Cond.instanceMethod yX9_functionAt ∈ WW := inWW (tb_2 _ (List.mem_of_getElem? (i := 148) rfl)) rfl
theorem ks_X9_functionAt : Cond.selects RX9 yX9_functionAt yX9_functionAt ∈ WW := inWW (List.mem_append_left _ (List.mem_of_getElem? (i := 0) rfl)) rfl
abbrev wsX9_handlerAt : List Cond := .code yX9_handlerAt cX9_handlerAt 2 (some (.object "CallBoard$Handler")) :: WW
theorem kc_X9_handlerAt : Cond.code yX9_handlerAt cX9_handlerAt 2 (some (.object "CallBoard$Handler")) ∈ WW := inWW (tb_2 _ (List.mem_of_getElem? (i := 209) rfl)) rfl
theorem ki_X9_handlerAt : Cond.instanceMethod yX9_handlerAt ∈ WW := inWW (tb_2 _ (List.mem_of_getElem? (i := 208) rfl)) rfl
theorem ks_X9_handlerAt : Cond.selects RX9 yX9_handlerAt yX9_handlerAt ∈ WW := inWW (List.mem_append_left _ (List.mem_of_getElem? (i := 1) rfl)) rfl
abbrev wsX9_readToldRow : List Cond := .code yX9_readToldRow cX9_readToldRow 4 (some .boolean) :: WW
theorem kc_X9_readToldRow : Cond.code yX9_readToldRow cX9_readToldRow 4 (some .boolean) ∈ WW := inWW (tb_3 _ (List.mem_of_getElem? (i := 73) rfl)) rfl
theorem ki_X9_readToldRow : Cond.instanceMethod yX9_readToldRow ∈ WW := inWW (tb_3 _ (List.mem_of_getElem? (i := 72) rfl)) rfl
theorem ks_X9_readToldRow : Cond.selects RX9 yX9_readToldRow yX9_readToldRow ∈ WW := inWW (List.mem_append_left _ (List.mem_of_getElem? (i := 7) rfl)) rfl
abbrev wsX9_countOfAll : List Cond := .code yX9_countOfAll cX9_countOfAll 2 (some .int) :: WW
theorem kc_X9_countOfAll : Cond.code yX9_countOfAll cX9_countOfAll 2 (some .int) ∈ WW := inWW (tb_4 _ (List.mem_of_getElem? (i := 5) rfl)) rfl
theorem ki_X9_countOfAll : Cond.instanceMethod yX9_countOfAll ∈ WW := inWW (tb_4 _ (List.mem_of_getElem? (i := 4) rfl)) rfl
theorem ks_X9_countOfAll : Cond.selects RX9 yX9_countOfAll yX9_countOfAll ∈ WW := inWW (List.mem_append_left _ (List.mem_of_getElem? (i := 19) rfl)) rfl
abbrev wsX9_explainAmongTakers : List Cond := .code yX9_explainAmongTakers cX9_explainAmongTakers 7 (some .int) :: WW
theorem kc_X9_explainAmongTakers : Cond.code yX9_explainAmongTakers cX9_explainAmongTakers 7 (some .int) ∈ WW := inWW (tb_3 _ (List.mem_of_getElem? (i := 225) rfl)) rfl
theorem ki_X9_explainAmongTakers : Cond.instanceMethod yX9_explainAmongTakers ∈ WW := inWW (tb_3 _ (List.mem_of_getElem? (i := 224) rfl)) rfl
theorem ks_X9_explainAmongTakers : Cond.selects RX9 yX9_explainAmongTakers yX9_explainAmongTakers ∈ WW := inWW (List.mem_append_left _ (List.mem_of_getElem? (i := 18) rfl)) rfl
abbrev wsX9_carryOut : List Cond := .code yX9_carryOut cX9_carryOut 3 (some (.object "CallBoard$Function")) :: WW
theorem kc_X9_carryOut : Cond.code yX9_carryOut cX9_carryOut 3 (some (.object "CallBoard$Function")) ∈ WW := inWW (tb_3 _ (List.mem_of_getElem? (i := 81) rfl)) rfl
theorem ki_X9_carryOut : Cond.instanceMethod yX9_carryOut ∈ WW := inWW (tb_3 _ (List.mem_of_getElem? (i := 80) rfl)) rfl
theorem ks_X9_carryOut : Cond.selects RX9 yX9_carryOut yX9_carryOut ∈ WW := inWW (List.mem_append_left _ (List.mem_of_getElem? (i := 8) rfl)) rfl
abbrev wsX9_isBarred : List Cond := .code yX9_isBarred cX9_isBarred 7 (some .boolean) :: WW
theorem kc_X9_isBarred : Cond.code yX9_isBarred cX9_isBarred 7 (some .boolean) ∈ WW := inWW (tb_3 _ (List.mem_of_getElem? (i := 85) rfl)) rfl
theorem ki_X9_isBarred : Cond.instanceMethod yX9_isBarred ∈ WW := inWW (tb_3 _ (List.mem_of_getElem? (i := 84) rfl)) rfl
theorem ks_X9_isBarred : Cond.selects RX9 yX9_isBarred yX9_isBarred ∈ WW := inWW (List.mem_append_left _ (List.mem_of_getElem? (i := 9) rfl)) rfl
abbrev wsX9_runChosen : List Cond := .code yX9_runChosen cX9_runChosen 7 (some (.object "CallBoard$Function")) :: WW
theorem kc_X9_runChosen : Cond.code yX9_runChosen cX9_runChosen 7 (some (.object "CallBoard$Function")) ∈ WW := inWW (tb_3 _ (List.mem_of_getElem? (i := 147) rfl)) rfl
theorem ki_X9_runChosen : Cond.instanceMethod yX9_runChosen ∈ WW := inWW (tb_3 _ (List.mem_of_getElem? (i := 146) rfl)) rfl
theorem ks_X9_runChosen : Cond.selects RX9 yX9_runChosen yX9_runChosen ∈ WW := inWW (List.mem_append_left _ (List.mem_of_getElem? (i := 13) rfl)) rfl
abbrev wsX9_act : List Cond := .code yX9_act cX9_act 2 (some (.object "CallBoard$Function")) :: WW
theorem kc_X9_act : Cond.code yX9_act cX9_act 2 (some (.object "CallBoard$Function")) ∈ WW := inWW (tb_3 _ (List.mem_of_getElem? (i := 155) rfl)) rfl
theorem ki_X9_act : Cond.instanceMethod yX9_act ∈ WW := inWW (tb_3 _ (List.mem_of_getElem? (i := 154) rfl)) rfl
theorem ks_X9_act : Cond.selects RX9 yX9_act yX9_act ∈ WW := inWW (List.mem_append_left _ (List.mem_of_getElem? (i := 14) rfl)) rfl
abbrev wsX9_countUp : List Cond := .code yX9_countUp cX9_countUp 2 (some .int) :: WW
theorem kc_X9_countUp : Cond.code yX9_countUp cX9_countUp 2 (some .int) ∈ WW := inWW (tb_3 _ (List.mem_of_getElem? (i := 170) rfl)) rfl
theorem ki_X9_countUp : Cond.instanceMethod yX9_countUp ∈ WW := inWW (tb_3 _ (List.mem_of_getElem? (i := 169) rfl)) rfl
theorem ks_X9_countUp : Cond.selects RX9 yX9_countUp yX9_countUp ∈ WW := inWW (List.mem_append_left _ (List.mem_of_getElem? (i := 15) rfl)) rfl
abbrev wsX9_bringSample : List Cond := .code yX9_bringSample cX9_bringSample 3 none :: WW
theorem kc_X9_bringSample : Cond.code yX9_bringSample cX9_bringSample 3 none ∈ WW := inWW (tb_3 _ (List.mem_of_getElem? (i := 174) rfl)) rfl
theorem ki_X9_bringSample : Cond.instanceMethod yX9_bringSample ∈ WW := inWW (tb_3 _ (List.mem_of_getElem? (i := 173) rfl)) rfl
theorem ks_X9_bringSample : Cond.selects RX9 yX9_bringSample yX9_bringSample ∈ WW := inWW (List.mem_append_left _ (List.mem_of_getElem? (i := 16) rfl)) rfl
abbrev wsX9_calledWithin : List Cond := .code yX9_calledWithin cX9_calledWithin 3 (some (.object "CallBoard$Function")) :: WW
theorem kc_X9_calledWithin : Cond.code yX9_calledWithin cX9_calledWithin 3 (some (.object "CallBoard$Function")) ∈ WW := inWW (tb_3 _ (List.mem_of_getElem? (i := 178) rfl)) rfl
theorem ki_X9_calledWithin : Cond.instanceMethod yX9_calledWithin ∈ WW := inWW (tb_3 _ (List.mem_of_getElem? (i := 177) rfl)) rfl
theorem ks_X9_calledWithin : Cond.selects RX9 yX9_calledWithin yX9_calledWithin ∈ WW := inWW (List.mem_append_left _ (List.mem_of_getElem? (i := 17) rfl)) rfl
abbrev wsX10_init : List Cond := .code yX10_init cX10_init 2 none :: WW
theorem kc_X10_init : Cond.code yX10_init cX10_init 2 none ∈ WW := inWW (tb_4 _ (List.mem_of_getElem? (i := 77) rfl)) rfl
theorem ki_X10_init : Cond.instanceMethod yX10_init ∈ WW := inWW (tb_4 _ (List.mem_of_getElem? (i := 76) rfl)) rfl
abbrev wsX10_isClass : List Cond := .code yX10_isClass cX10_isClass 1 (some .boolean) :: WW
theorem kc_X10_isClass : Cond.code yX10_isClass cX10_isClass 1 (some .boolean) ∈ WW := inWW (tb_4 _ (List.mem_of_getElem? (i := 204) rfl)) rfl
theorem kt_X10_isClass : Cond.static yX10_isClass ∈ WW := inWW (tb_4 _ (List.mem_of_getElem? (i := 203) rfl)) rfl
abbrev wsX10_isTrait : List Cond := .code yX10_isTrait cX10_isTrait 1 (some .boolean) :: WW
theorem kc_X10_isTrait : Cond.code yX10_isTrait cX10_isTrait 1 (some .boolean) ∈ WW := inWW (tb_4 _ (List.mem_of_getElem? (i := 211) rfl)) rfl
theorem kt_X10_isTrait : Cond.static yX10_isTrait ∈ WW := inWW (tb_4 _ (List.mem_of_getElem? (i := 210) rfl)) rfl
abbrev wsX10_parent : List Cond := .code yX10_parent cX10_parent 3 (some .int) :: WW
theorem kc_X10_parent : Cond.code yX10_parent cX10_parent 3 (some .int) ∈ WW := inWW (tb_4 _ (List.mem_of_getElem? (i := 201) rfl)) rfl
theorem ki_X10_parent : Cond.instanceMethod yX10_parent ∈ WW := inWW (tb_4 _ (List.mem_of_getElem? (i := 199) rfl)) rfl
theorem ks_X10_parent : Cond.selects RX10 yX10_parent yX10_parent ∈ WW := inWW (tb_4 _ (List.mem_of_getElem? (i := 200) rfl)) rfl
abbrev wsX10_add : List Cond := .code yX10_add cX10_add 4 (some .int) :: WW
theorem kc_X10_add : Cond.code yX10_add cX10_add 4 (some .int) ∈ WW := inWW (tb_4 _ (List.mem_of_getElem? (i := 215) rfl)) rfl
theorem ki_X10_add : Cond.instanceMethod yX10_add ∈ WW := inWW (tb_4 _ (List.mem_of_getElem? (i := 214) rfl)) rfl
theorem ks_X10_add : Cond.selects RX10 yX10_add yX10_add ∈ WW := inWW (List.mem_append_left _ (List.mem_of_getElem? (i := 27) rfl)) rfl
abbrev wsX10_trait : List Cond := .code yX10_trait cX10_trait 3 (some .int) :: WW
theorem kc_X10_trait : Cond.code yX10_trait cX10_trait 3 (some .int) ∈ WW := inWW (tb_4 _ (List.mem_of_getElem? (i := 208) rfl)) rfl
theorem ki_X10_trait : Cond.instanceMethod yX10_trait ∈ WW := inWW (tb_4 _ (List.mem_of_getElem? (i := 206) rfl)) rfl
theorem ks_X10_trait : Cond.selects RX10 yX10_trait yX10_trait ∈ WW := inWW (tb_4 _ (List.mem_of_getElem? (i := 207) rfl)) rfl
abbrev wsX10_has : List Cond := .code yX10_has cX10_has 3 (some .int) :: WW
theorem kc_X10_has : Cond.code yX10_has cX10_has 3 (some .int) ∈ WW := inWW (tb_4 _ (List.mem_of_getElem? (i := 219) rfl)) rfl
theorem ki_X10_has : Cond.instanceMethod yX10_has ∈ WW := inWW (tb_4 _ (List.mem_of_getElem? (i := 217) rfl)) rfl
theorem ks_X10_has : Cond.selects RX10 yX10_has yX10_has ∈ WW := inWW (tb_4 _ (List.mem_of_getElem? (i := 218) rfl)) rfl
abbrev wsX10_flag : List Cond := .code yX10_flag cX10_flag 3 (some .int) :: WW
theorem kc_X10_flag : Cond.code yX10_flag cX10_flag 3 (some .int) ∈ WW := inWW (tb_4 _ (List.mem_of_getElem? (i := 223) rfl)) rfl
theorem ki_X10_flag : Cond.instanceMethod yX10_flag ∈ WW := inWW (tb_4 _ (List.mem_of_getElem? (i := 221) rfl)) rfl
theorem ks_X10_flag : Cond.selects RX10 yX10_flag yX10_flag ∈ WW := inWW (tb_4 _ (List.mem_of_getElem? (i := 222) rfl)) rfl
abbrev wsX10_close : List Cond := .code yX10_close cX10_close 4 (some .int) :: WW
theorem kc_X10_close : Cond.code yX10_close cX10_close 4 (some .int) ∈ WW := inWW (tb_4 _ (List.mem_of_getElem? (i := 227) rfl)) rfl
theorem ki_X10_close : Cond.instanceMethod yX10_close ∈ WW := inWW (tb_4 _ (List.mem_of_getElem? (i := 225) rfl)) rfl
theorem ks_X10_close : Cond.selects RX10 yX10_close yX10_close ∈ WW := inWW (tb_4 _ (List.mem_of_getElem? (i := 226) rfl)) rfl
abbrev wsX10_isBelow : List Cond := .code yX10_isBelow cX10_isBelow 3 (some .boolean) :: WW
theorem kc_X10_isBelow : Cond.code yX10_isBelow cX10_isBelow 3 (some .boolean) ∈ WW := inWW (tb_4 _ (List.mem_of_getElem? (i := 235) rfl)) rfl
theorem ki_X10_isBelow : Cond.instanceMethod yX10_isBelow ∈ WW := inWW (tb_4 _ (List.mem_of_getElem? (i := 234) rfl)) rfl
theorem ks_X10_isBelow : Cond.selects RX10 yX10_isBelow yX10_isBelow ∈ WW := inWW (List.mem_append_left _ (List.mem_of_getElem? (i := 28) rfl)) rfl
abbrev wsX10_below : List Cond := .code yX10_below cX10_below 3 (some .boolean) :: WW
theorem kc_X10_below : Cond.code yX10_below cX10_below 3 (some .boolean) ∈ WW := inWW (tb_4 _ (List.mem_of_getElem? (i := 231) rfl)) rfl
theorem ki_X10_below : Cond.instanceMethod yX10_below ∈ WW := inWW (tb_4 _ (List.mem_of_getElem? (i := 229) rfl)) rfl
theorem ks_X10_below : Cond.selects RX10 yX10_below yX10_below ∈ WW := inWW (tb_4 _ (List.mem_of_getElem? (i := 230) rfl)) rfl
abbrev wsX10_sample : List Cond := .code yX10_sample cX10_sample 3 (some .int) :: WW
theorem kc_X10_sample : Cond.code yX10_sample cX10_sample 3 (some .int) ∈ WW := inWW (tb_4 _ (List.mem_of_getElem? (i := 239) rfl)) rfl
theorem ki_X10_sample : Cond.instanceMethod yX10_sample ∈ WW := inWW (tb_4 _ (List.mem_of_getElem? (i := 237) rfl)) rfl
theorem ks_X10_sample : Cond.selects RX10 yX10_sample yX10_sample ∈ WW := inWW (tb_4 _ (List.mem_of_getElem? (i := 238) rfl)) rfl
abbrev wsX10_of : List Cond := .code yX10_of cX10_of 3 (some .int) :: WW
theorem kc_X10_of : Cond.code yX10_of cX10_of 3 (some .int) ∈ WW := inWW (tb_5 _ (List.mem_of_getElem? (i := 3) rfl)) rfl
theorem ki_X10_of : Cond.instanceMethod yX10_of ∈ WW := inWW (tb_5 _ (List.mem_of_getElem? (i := 1) rfl)) rfl
theorem ks_X10_of : Cond.selects RX10 yX10_of yX10_of ∈ WW := inWW (tb_5 _ (List.mem_of_getElem? (i := 2) rfl)) rfl
abbrev wsX10_samples : List Cond := .code yX10_samples cX10_samples 1 (some .int) :: WW
theorem kc_X10_samples : Cond.code yX10_samples cX10_samples 1 (some .int) ∈ WW := inWW (tb_5 _ (List.mem_of_getElem? (i := 7) rfl)) rfl
theorem ki_X10_samples : Cond.instanceMethod yX10_samples ∈ WW := inWW (tb_5 _ (List.mem_of_getElem? (i := 5) rfl)) rfl
theorem ks_X10_samples : Cond.selects RX10 yX10_samples yX10_samples ∈ WW := inWW (tb_5 _ (List.mem_of_getElem? (i := 6) rfl)) rfl
abbrev wsX10_function : List Cond := .code yX10_function cX10_function 2 (some .int) :: WW
theorem kc_X10_function : Cond.code yX10_function cX10_function 2 (some .int) ∈ WW := inWW (tb_5 _ (List.mem_of_getElem? (i := 11) rfl)) rfl
theorem ki_X10_function : Cond.instanceMethod yX10_function ∈ WW := inWW (tb_5 _ (List.mem_of_getElem? (i := 9) rfl)) rfl
theorem ks_X10_function : Cond.selects RX10 yX10_function yX10_function ∈ WW := inWW (tb_5 _ (List.mem_of_getElem? (i := 10) rfl)) rfl
abbrev wsX10_isFunction : List Cond := .code yX10_isFunction cX10_isFunction 2 (some .boolean) :: WW
theorem kc_X10_isFunction : Cond.code yX10_isFunction cX10_isFunction 2 (some .boolean) ∈ WW := inWW (tb_5 _ (List.mem_of_getElem? (i := 19) rfl)) rfl
theorem ki_X10_isFunction : Cond.instanceMethod yX10_isFunction ∈ WW := inWW (tb_5 _ (List.mem_of_getElem? (i := 18) rfl)) rfl
theorem ks_X10_isFunction : Cond.selects RX10 yX10_isFunction yX10_isFunction ∈ WW := inWW (List.mem_append_left _ (List.mem_of_getElem? (i := 29) rfl)) rfl
abbrev wsX10_isHandler : List Cond := .code yX10_isHandler cX10_isHandler 2 (some .boolean) :: WW
theorem kc_X10_isHandler : Cond.code yX10_isHandler cX10_isHandler 2 (some .boolean) ∈ WW := inWW (tb_5 _ (List.mem_of_getElem? (i := 33) rfl)) rfl
theorem ki_X10_isHandler : Cond.instanceMethod yX10_isHandler ∈ WW := inWW (tb_5 _ (List.mem_of_getElem? (i := 32) rfl)) rfl
theorem ks_X10_isHandler : Cond.selects RX10 yX10_isHandler yX10_isHandler ∈ WW := inWW (List.mem_append_left _ (List.mem_of_getElem? (i := 31) rfl)) rfl
abbrev wsX10_handler : List Cond := .code yX10_handler cX10_handler 7 (some .int) :: WW
theorem kc_X10_handler : Cond.code yX10_handler cX10_handler 7 (some .int) ∈ WW := inWW (tb_5 _ (List.mem_of_getElem? (i := 15) rfl)) rfl
theorem ki_X10_handler : Cond.instanceMethod yX10_handler ∈ WW := inWW (tb_5 _ (List.mem_of_getElem? (i := 13) rfl)) rfl
theorem ks_X10_handler : Cond.selects RX10 yX10_handler yX10_handler ∈ WW := inWW (tb_5 _ (List.mem_of_getElem? (i := 14) rfl)) rfl
abbrev wsX10_hasPlace : List Cond := .code yX10_hasPlace cX10_hasPlace 3 (some .boolean) :: WW
theorem kc_X10_hasPlace : Cond.code yX10_hasPlace cX10_hasPlace 3 (some .boolean) ∈ WW := inWW (tb_5 _ (List.mem_of_getElem? (i := 29) rfl)) rfl
theorem ki_X10_hasPlace : Cond.instanceMethod yX10_hasPlace ∈ WW := inWW (tb_5 _ (List.mem_of_getElem? (i := 28) rfl)) rfl
theorem ks_X10_hasPlace : Cond.selects RX10 yX10_hasPlace yX10_hasPlace ∈ WW := inWW (List.mem_append_left _ (List.mem_of_getElem? (i := 30) rfl)) rfl
abbrev wsX10_place : List Cond := .code yX10_place cX10_place 4 (some .int) :: WW
theorem kc_X10_place : Cond.code yX10_place cX10_place 4 (some .int) ∈ WW := inWW (tb_5 _ (List.mem_of_getElem? (i := 25) rfl)) rfl
theorem ki_X10_place : Cond.instanceMethod yX10_place ∈ WW := inWW (tb_5 _ (List.mem_of_getElem? (i := 23) rfl)) rfl
theorem ks_X10_place : Cond.selects RX10 yX10_place yX10_place ∈ WW := inWW (tb_5 _ (List.mem_of_getElem? (i := 24) rfl)) rfl
abbrev wsX10_test : List Cond := .code yX10_test cX10_test 5 (some .int) :: WW
theorem kc_X10_test : Cond.code yX10_test cX10_test 5 (some .int) ∈ WW := inWW (tb_5 _ (List.mem_of_getElem? (i := 37) rfl)) rfl
theorem ki_X10_test : Cond.instanceMethod yX10_test ∈ WW := inWW (tb_5 _ (List.mem_of_getElem? (i := 35) rfl)) rfl
theorem ks_X10_test : Cond.selects RX10 yX10_test yX10_test ∈ WW := inWW (tb_5 _ (List.mem_of_getElem? (i := 36) rfl)) rfl
abbrev wsX10_isLaid : List Cond := .code yX10_isLaid cX10_isLaid 3 (some .boolean) :: WW
theorem kc_X10_isLaid : Cond.code yX10_isLaid cX10_isLaid 3 (some .boolean) ∈ WW := inWW (tb_5 _ (List.mem_of_getElem? (i := 45) rfl)) rfl
theorem ki_X10_isLaid : Cond.instanceMethod yX10_isLaid ∈ WW := inWW (tb_5 _ (List.mem_of_getElem? (i := 44) rfl)) rfl
theorem ks_X10_isLaid : Cond.selects RX10 yX10_isLaid yX10_isLaid ∈ WW := inWW (List.mem_append_left _ (List.mem_of_getElem? (i := 32) rfl)) rfl
abbrev wsX10_laid : List Cond := .code yX10_laid cX10_laid 4 (some .int) :: WW
theorem kc_X10_laid : Cond.code yX10_laid cX10_laid 4 (some .int) ∈ WW := inWW (tb_5 _ (List.mem_of_getElem? (i := 53) rfl)) rfl
theorem ki_X10_laid : Cond.instanceMethod yX10_laid ∈ WW := inWW (tb_5 _ (List.mem_of_getElem? (i := 52) rfl)) rfl
theorem ks_X10_laid : Cond.selects RX10 yX10_laid yX10_laid ∈ WW := inWW (List.mem_append_left _ (List.mem_of_getElem? (i := 34) rfl)) rfl
abbrev wsX10_areSame : List Cond := .code yX10_areSame cX10_areSame 4 (some .boolean) :: WW
theorem kc_X10_areSame : Cond.code yX10_areSame cX10_areSame 4 (some .boolean) ∈ WW := inWW (tb_5 _ (List.mem_of_getElem? (i := 49) rfl)) rfl
theorem ki_X10_areSame : Cond.instanceMethod yX10_areSame ∈ WW := inWW (tb_5 _ (List.mem_of_getElem? (i := 48) rfl)) rfl
theorem ks_X10_areSame : Cond.selects RX10 yX10_areSame yX10_areSame ∈ WW := inWW (List.mem_append_left _ (List.mem_of_getElem? (i := 33) rfl)) rfl
abbrev wsX10_isNarrower : List Cond := .code yX10_isNarrower cX10_isNarrower 6 (some .boolean) :: WW
theorem kc_X10_isNarrower : Cond.code yX10_isNarrower cX10_isNarrower 6 (some .boolean) ∈ WW := inWW (tb_5 _ (List.mem_of_getElem? (i := 77) rfl)) rfl
theorem ki_X10_isNarrower : Cond.instanceMethod yX10_isNarrower ∈ WW := inWW (tb_5 _ (List.mem_of_getElem? (i := 76) rfl)) rfl
theorem ks_X10_isNarrower : Cond.selects RX10 yX10_isNarrower yX10_isNarrower ∈ WW := inWW (List.mem_append_left _ (List.mem_of_getElem? (i := 36) rfl)) rfl
abbrev wsX10_isMore : List Cond := .code yX10_isMore cX10_isMore 7 (some .boolean) :: WW
theorem kc_X10_isMore : Cond.code yX10_isMore cX10_isMore 7 (some .boolean) ∈ WW := inWW (tb_5 _ (List.mem_of_getElem? (i := 73) rfl)) rfl
theorem ki_X10_isMore : Cond.instanceMethod yX10_isMore ∈ WW := inWW (tb_5 _ (List.mem_of_getElem? (i := 72) rfl)) rfl
theorem ks_X10_isMore : Cond.selects RX10 yX10_isMore yX10_isMore ∈ WW := inWW (List.mem_append_left _ (List.mem_of_getElem? (i := 35) rfl)) rfl
abbrev wsX10_lay : List Cond := .code yX10_lay cX10_lay 6 (some .int) :: WW
theorem kc_X10_lay : Cond.code yX10_lay cX10_lay 6 (some .int) ∈ WW := inWW (tb_5 _ (List.mem_of_getElem? (i := 41) rfl)) rfl
theorem ki_X10_lay : Cond.instanceMethod yX10_lay ∈ WW := inWW (tb_5 _ (List.mem_of_getElem? (i := 39) rfl)) rfl
theorem ks_X10_lay : Cond.selects RX10 yX10_lay yX10_lay ∈ WW := inWW (tb_5 _ (List.mem_of_getElem? (i := 40) rfl)) rfl
abbrev wsX10_lift : List Cond := .code yX10_lift cX10_lift 2 (some .int) :: WW
theorem kc_X10_lift : Cond.code yX10_lift cX10_lift 2 (some .int) ∈ WW := inWW (tb_5 _ (List.mem_of_getElem? (i := 57) rfl)) rfl
theorem ki_X10_lift : Cond.instanceMethod yX10_lift ∈ WW := inWW (tb_5 _ (List.mem_of_getElem? (i := 55) rfl)) rfl
theorem ks_X10_lift : Cond.selects RX10 yX10_lift yX10_lift ∈ WW := inWW (tb_5 _ (List.mem_of_getElem? (i := 56) rfl)) rfl
abbrev wsX10_freeze : List Cond := .code yX10_freeze cX10_freeze 4 (some .int) :: WW
theorem kc_X10_freeze : Cond.code yX10_freeze cX10_freeze 4 (some .int) ∈ WW := inWW (tb_5 _ (List.mem_of_getElem? (i := 61) rfl)) rfl
theorem ki_X10_freeze : Cond.instanceMethod yX10_freeze ∈ WW := inWW (tb_5 _ (List.mem_of_getElem? (i := 59) rfl)) rfl
theorem ks_X10_freeze : Cond.selects RX10 yX10_freeze yX10_freeze ∈ WW := inWW (tb_5 _ (List.mem_of_getElem? (i := 60) rfl)) rfl
abbrev wsX10_about : List Cond := .code yX10_about cX10_about 5 (some .int) :: WW
theorem kc_X10_about : Cond.code yX10_about cX10_about 5 (some .int) ∈ WW := inWW (tb_5 _ (List.mem_of_getElem? (i := 65) rfl)) rfl
theorem ki_X10_about : Cond.instanceMethod yX10_about ∈ WW := inWW (tb_5 _ (List.mem_of_getElem? (i := 63) rfl)) rfl
theorem ks_X10_about : Cond.selects RX10 yX10_about yX10_about ∈ WW := inWW (tb_5 _ (List.mem_of_getElem? (i := 64) rfl)) rfl
abbrev wsX10_dominates : List Cond := .code yX10_dominates cX10_dominates 3 (some .boolean) :: WW
theorem kc_X10_dominates : Cond.code yX10_dominates cX10_dominates 3 (some .boolean) ∈ WW := inWW (tb_5 _ (List.mem_of_getElem? (i := 69) rfl)) rfl
theorem ki_X10_dominates : Cond.instanceMethod yX10_dominates ∈ WW := inWW (tb_5 _ (List.mem_of_getElem? (i := 67) rfl)) rfl
theorem ks_X10_dominates : Cond.selects RX10 yX10_dominates yX10_dominates ∈ WW := inWW (tb_5 _ (List.mem_of_getElem? (i := 68) rfl)) rfl
abbrev wsX10_inOrder : List Cond := .code yX10_inOrder cX10_inOrder 8 (some .int) :: WW
theorem kc_X10_inOrder : Cond.code yX10_inOrder cX10_inOrder 8 (some .int) ∈ WW := inWW (tb_5 _ (List.mem_of_getElem? (i := 85) rfl)) rfl
theorem ki_X10_inOrder : Cond.instanceMethod yX10_inOrder ∈ WW := inWW (tb_5 _ (List.mem_of_getElem? (i := 84) rfl)) rfl
theorem ks_X10_inOrder : Cond.selects RX10 yX10_inOrder yX10_inOrder ∈ WW := inWW (List.mem_append_left _ (List.mem_of_getElem? (i := 37) rfl)) rfl
abbrev wsX10_order : List Cond := .code yX10_order cX10_order 3 (some .int) :: WW
theorem kc_X10_order : Cond.code yX10_order cX10_order 3 (some .int) ∈ WW := inWW (tb_5 _ (List.mem_of_getElem? (i := 81) rfl)) rfl
theorem ki_X10_order : Cond.instanceMethod yX10_order ∈ WW := inWW (tb_5 _ (List.mem_of_getElem? (i := 79) rfl)) rfl
theorem ks_X10_order : Cond.selects RX10 yX10_order yX10_order ∈ WW := inWW (tb_5 _ (List.mem_of_getElem? (i := 80) rfl)) rfl
abbrev wsX10_takesAt : List Cond := .code yX10_takesAt cX10_takesAt 5 (some .boolean) :: WW
theorem kc_X10_takesAt : Cond.code yX10_takesAt cX10_takesAt 5 (some .boolean) ∈ WW := inWW (tb_5 _ (List.mem_of_getElem? (i := 113) rfl)) rfl
theorem ki_X10_takesAt : Cond.instanceMethod yX10_takesAt ∈ WW := inWW (tb_5 _ (List.mem_of_getElem? (i := 112) rfl)) rfl
theorem ks_X10_takesAt : Cond.selects RX10 yX10_takesAt yX10_takesAt ∈ WW := inWW (List.mem_append_left _ (List.mem_of_getElem? (i := 42) rfl)) rfl
abbrev wsX10_takes : List Cond := .code yX10_takes cX10_takes 4 (some .boolean) :: WW
theorem kc_X10_takes : Cond.code yX10_takes cX10_takes 4 (some .boolean) ∈ WW := inWW (tb_5 _ (List.mem_of_getElem? (i := 109) rfl)) rfl
theorem ki_X10_takes : Cond.instanceMethod yX10_takes ∈ WW := inWW (tb_5 _ (List.mem_of_getElem? (i := 108) rfl)) rfl
theorem ks_X10_takes : Cond.selects RX10 yX10_takes yX10_takes ∈ WW := inWW (List.mem_append_left _ (List.mem_of_getElem? (i := 41) rfl)) rfl
abbrev wsX10_isOffered : List Cond := .code yX10_isOffered cX10_isOffered 4 (some .boolean) :: WW
theorem kc_X10_isOffered : Cond.code yX10_isOffered cX10_isOffered 4 (some .boolean) ∈ WW := inWW (tb_5 _ (List.mem_of_getElem? (i := 142) rfl)) rfl
theorem ki_X10_isOffered : Cond.instanceMethod yX10_isOffered ∈ WW := inWW (tb_5 _ (List.mem_of_getElem? (i := 141) rfl)) rfl
theorem ks_X10_isOffered : Cond.selects RX10 yX10_isOffered yX10_isOffered ∈ WW := inWW (List.mem_append_left _ (List.mem_of_getElem? (i := 49) rfl)) rfl
abbrev wsX10_offered : List Cond := .code yX10_offered cX10_offered 5 (some .int) :: WW
theorem kc_X10_offered : Cond.code yX10_offered cX10_offered 5 (some .int) ∈ WW := inWW (tb_5 _ (List.mem_of_getElem? (i := 138) rfl)) rfl
theorem ki_X10_offered : Cond.instanceMethod yX10_offered ∈ WW := inWW (tb_5 _ (List.mem_of_getElem? (i := 137) rfl)) rfl
theorem ks_X10_offered : Cond.selects RX10 yX10_offered yX10_offered ∈ WW := inWW (List.mem_append_left _ (List.mem_of_getElem? (i := 48) rfl)) rfl
abbrev wsX10_chosen : List Cond := .code yX10_chosen cX10_chosen 7 (some .int) :: WW
theorem kc_X10_chosen : Cond.code yX10_chosen cX10_chosen 7 (some .int) ∈ WW := inWW (tb_5 _ (List.mem_of_getElem? (i := 146) rfl)) rfl
theorem ki_X10_chosen : Cond.instanceMethod yX10_chosen ∈ WW := inWW (tb_5 _ (List.mem_of_getElem? (i := 145) rfl)) rfl
theorem ks_X10_chosen : Cond.selects RX10 yX10_chosen yX10_chosen ∈ WW := inWW (List.mem_append_left _ (List.mem_of_getElem? (i := 50) rfl)) rfl
abbrev wsX10_tellRow : List Cond := .code yX10_tellRow cX10_tellRow 4 (some .boolean) :: WW
theorem kc_X10_tellRow : Cond.code yX10_tellRow cX10_tellRow 4 (some .boolean) ∈ WW := inWW (tb_5 _ (List.mem_of_getElem? (i := 97) rfl)) rfl
theorem ki_X10_tellRow : Cond.instanceMethod yX10_tellRow ∈ WW := inWW (tb_5 _ (List.mem_of_getElem? (i := 96) rfl)) rfl
theorem ks_X10_tellRow : Cond.selects RX10 yX10_tellRow yX10_tellRow ∈ WW := inWW (List.mem_append_left _ (List.mem_of_getElem? (i := 38) rfl)) rfl
abbrev wsX10_piece : List Cond := .code yX10_piece cX10_piece 10 (some .long) :: WW
theorem kc_X10_piece : Cond.code yX10_piece cX10_piece 10 (some .long) ∈ WW := inWW (tb_5 _ (List.mem_of_getElem? (i := 129) rfl)) rfl
theorem ki_X10_piece : Cond.instanceMethod yX10_piece ∈ WW := inWW (tb_5 _ (List.mem_of_getElem? (i := 128) rfl)) rfl
theorem ks_X10_piece : Cond.selects RX10 yX10_piece yX10_piece ∈ WW := inWW (List.mem_append_left _ (List.mem_of_getElem? (i := 46) rfl)) rfl
abbrev wsX10_remember : List Cond := .code yX10_remember cX10_remember 14 none :: WW
theorem kc_X10_remember : Cond.code yX10_remember cX10_remember 14 none ∈ WW := inWW (tb_5 _ (List.mem_of_getElem? (i := 125) rfl)) rfl
theorem ki_X10_remember : Cond.instanceMethod yX10_remember ∈ WW := inWW (tb_5 _ (List.mem_of_getElem? (i := 124) rfl)) rfl
theorem ks_X10_remember : Cond.selects RX10 yX10_remember yX10_remember ∈ WW := inWW (List.mem_append_left _ (List.mem_of_getElem? (i := 45) rfl)) rfl
abbrev wsX10_arg : List Cond := .code yX10_arg cX10_arg 3 (some .int) :: WW
theorem kc_X10_arg : Cond.code yX10_arg cX10_arg 3 (some .int) ∈ WW := inWW (tb_5 _ (List.mem_of_getElem? (i := 89) rfl)) rfl
theorem ki_X10_arg : Cond.instanceMethod yX10_arg ∈ WW := inWW (tb_5 _ (List.mem_of_getElem? (i := 87) rfl)) rfl
theorem ks_X10_arg : Cond.selects RX10 yX10_arg yX10_arg ∈ WW := inWW (tb_5 _ (List.mem_of_getElem? (i := 88) rfl)) rfl
abbrev wsX10_note : List Cond := .code yX10_note cX10_note 2 none :: WW
theorem kc_X10_note : Cond.code yX10_note cX10_note 2 none ∈ WW := inWW (tb_5 _ (List.mem_of_getElem? (i := 117) rfl)) rfl
theorem ki_X10_note : Cond.instanceMethod yX10_note ∈ WW := inWW (tb_5 _ (List.mem_of_getElem? (i := 116) rfl)) rfl
theorem ks_X10_note : Cond.selects RX10 yX10_note yX10_note ∈ WW := inWW (List.mem_append_left _ (List.mem_of_getElem? (i := 43) rfl)) rfl
abbrev wsX10_weight : List Cond := .code yX10_weight cX10_weight 2 (some .long) :: WW
theorem kc_X10_weight : Cond.code yX10_weight cX10_weight 2 (some .long) ∈ WW := inWW (tb_5 _ (List.mem_of_getElem? (i := 121) rfl)) rfl
theorem ki_X10_weight : Cond.instanceMethod yX10_weight ∈ WW := inWW (tb_5 _ (List.mem_of_getElem? (i := 120) rfl)) rfl
theorem ks_X10_weight : Cond.selects RX10 yX10_weight yX10_weight ∈ WW := inWW (List.mem_append_left _ (List.mem_of_getElem? (i := 44) rfl)) rfl
abbrev wsX10_isBarred : List Cond := .code yX10_isBarred cX10_isBarred 5 (some .boolean) :: WW
theorem kc_X10_isBarred : Cond.code yX10_isBarred cX10_isBarred 5 (some .boolean) ∈ WW := inWW (tb_5 _ (List.mem_of_getElem? (i := 105) rfl)) rfl
theorem ki_X10_isBarred : Cond.instanceMethod yX10_isBarred ∈ WW := inWW (tb_5 _ (List.mem_of_getElem? (i := 104) rfl)) rfl
theorem ks_X10_isBarred : Cond.selects RX10 yX10_isBarred yX10_isBarred ∈ WW := inWW (List.mem_append_left _ (List.mem_of_getElem? (i := 40) rfl)) rfl
abbrev wsX10_begin : List Cond := .code yX10_begin cX10_begin 2 (some .int) :: WW
theorem kc_X10_begin : Cond.code yX10_begin cX10_begin 2 (some .int) ∈ WW := inWW (tb_5 _ (List.mem_of_getElem? (i := 101) rfl)) rfl
theorem ki_X10_begin : Cond.instanceMethod yX10_begin ∈ WW := inWW (tb_5 _ (List.mem_of_getElem? (i := 100) rfl)) rfl
theorem ks_X10_begin : Cond.selects RX10 yX10_begin yX10_begin ∈ WW := inWW (List.mem_append_left _ (List.mem_of_getElem? (i := 39) rfl)) rfl
abbrev wsX10_choose : List Cond := .code yX10_choose cX10_choose 4 (some .int) :: WW
theorem kc_X10_choose : Cond.code yX10_choose cX10_choose 4 (some .int) ∈ WW := inWW (tb_5 _ (List.mem_of_getElem? (i := 134) rfl)) rfl
theorem ki_X10_choose : Cond.instanceMethod yX10_choose ∈ WW := inWW (tb_5 _ (List.mem_of_getElem? (i := 133) rfl)) rfl
theorem ks_X10_choose : Cond.selects RX10 yX10_choose yX10_choose ∈ WW := inWW (List.mem_append_left _ (List.mem_of_getElem? (i := 47) rfl)) rfl
abbrev wsX10_fail : List Cond := .code yX10_fail cX10_fail 2 (some .int) :: WW
theorem kc_X10_fail : Cond.code yX10_fail cX10_fail 2 (some .int) ∈ WW := inWW (tb_5 _ (List.mem_of_getElem? (i := 158) rfl)) rfl
theorem ki_X10_fail : Cond.instanceMethod yX10_fail ∈ WW := inWW (tb_5 _ (List.mem_of_getElem? (i := 157) rfl)) rfl
theorem ks_X10_fail : Cond.selects RX10 yX10_fail yX10_fail ∈ WW := inWW (List.mem_append_left _ (List.mem_of_getElem? (i := 53) rfl)) rfl
abbrev wsX10_end : List Cond := .code yX10_end cX10_end 3 (some .int) :: WW
theorem kc_X10_end : Cond.code yX10_end cX10_end 3 (some .int) ∈ WW := inWW (tb_5 _ (List.mem_of_getElem? (i := 154) rfl)) rfl
theorem ki_X10_end : Cond.instanceMethod yX10_end ∈ WW := inWW (tb_5 _ (List.mem_of_getElem? (i := 153) rfl)) rfl
theorem ks_X10_end : Cond.selects RX10 yX10_end yX10_end ∈ WW := inWW (List.mem_append_left _ (List.mem_of_getElem? (i := 52) rfl)) rfl
abbrev wsX10_turn : List Cond := .code yX10_turn cX10_turn 4 none :: WW
theorem kc_X10_turn : Cond.code yX10_turn cX10_turn 4 none ∈ WW := inWW (tb_5 _ (List.mem_of_getElem? (i := 173) rfl)) rfl
theorem ki_X10_turn : Cond.instanceMethod yX10_turn ∈ WW := inWW (tb_5 _ (List.mem_of_getElem? (i := 172) rfl)) rfl
theorem ks_X10_turn : Cond.selects RX10 yX10_turn yX10_turn ∈ WW := inWW (List.mem_append_left _ (List.mem_of_getElem? (i := 56) rfl)) rfl
abbrev wsX10_rest : List Cond := .code yX10_rest cX10_rest 3 (some .int) :: WW
theorem kc_X10_rest : Cond.code yX10_rest cX10_rest 3 (some .int) ∈ WW := inWW (tb_5 _ (List.mem_of_getElem? (i := 161) rfl)) rfl
theorem kt_X10_rest : Cond.static yX10_rest ∈ WW := inWW (tb_5 _ (List.mem_of_getElem? (i := 160) rfl)) rfl
abbrev wsX10_callOn : List Cond := .code yX10_callOn cX10_callOn 4 (some .int) :: WW
theorem kc_X10_callOn : Cond.code yX10_callOn cX10_callOn 4 (some .int) ∈ WW := inWW (tb_5 _ (List.mem_of_getElem? (i := 169) rfl)) rfl
theorem ki_X10_callOn : Cond.instanceMethod yX10_callOn ∈ WW := inWW (tb_5 _ (List.mem_of_getElem? (i := 168) rfl)) rfl
theorem ks_X10_callOn : Cond.selects RX10 yX10_callOn yX10_callOn ∈ WW := inWW (List.mem_append_left _ (List.mem_of_getElem? (i := 55) rfl)) rfl
abbrev wsX10_grow : List Cond := .code yX10_grow cX10_grow 2 (some .int) :: WW
theorem kc_X10_grow : Cond.code yX10_grow cX10_grow 2 (some .int) ∈ WW := inWW (tb_5 _ (List.mem_of_getElem? (i := 165) rfl)) rfl
theorem ki_X10_grow : Cond.instanceMethod yX10_grow ∈ WW := inWW (tb_5 _ (List.mem_of_getElem? (i := 164) rfl)) rfl
theorem ks_X10_grow : Cond.selects RX10 yX10_grow yX10_grow ∈ WW := inWW (List.mem_append_left _ (List.mem_of_getElem? (i := 54) rfl)) rfl
abbrev wsX10_run : List Cond := .code yX10_run cX10_run 5 (some .int) :: WW
theorem kc_X10_run : Cond.code yX10_run cX10_run 5 (some .int) ∈ WW := inWW (tb_5 _ (List.mem_of_getElem? (i := 150) rfl)) rfl
theorem ki_X10_run : Cond.instanceMethod yX10_run ∈ WW := inWW (tb_5 _ (List.mem_of_getElem? (i := 149) rfl)) rfl
theorem ks_X10_run : Cond.selects RX10 yX10_run yX10_run ∈ WW := inWW (List.mem_append_left _ (List.mem_of_getElem? (i := 51) rfl)) rfl
abbrev wsX10_call : List Cond := .code yX10_call cX10_call 3 (some .int) :: WW
theorem kc_X10_call : Cond.code yX10_call cX10_call 3 (some .int) ∈ WW := inWW (tb_5 _ (List.mem_of_getElem? (i := 93) rfl)) rfl
theorem ki_X10_call : Cond.instanceMethod yX10_call ∈ WW := inWW (tb_5 _ (List.mem_of_getElem? (i := 91) rfl)) rfl
theorem ks_X10_call : Cond.selects RX10 yX10_call yX10_call ∈ WW := inWW (tb_5 _ (List.mem_of_getElem? (i := 92) rfl)) rfl
abbrev wsX10_value : List Cond := .code yX10_value cX10_value 1 (some .long) :: WW
theorem kc_X10_value : Cond.code yX10_value cX10_value 1 (some .long) ∈ WW := inWW (tb_5 _ (List.mem_of_getElem? (i := 177) rfl)) rfl
theorem ki_X10_value : Cond.instanceMethod yX10_value ∈ WW := inWW (tb_5 _ (List.mem_of_getElem? (i := 175) rfl)) rfl
theorem ks_X10_value : Cond.selects RX10 yX10_value yX10_value ∈ WW := inWW (tb_5 _ (List.mem_of_getElem? (i := 176) rfl)) rfl
abbrev wsX10_failure : List Cond := .code yX10_failure cX10_failure 1 (some .int) :: WW
theorem kc_X10_failure : Cond.code yX10_failure cX10_failure 1 (some .int) ∈ WW := inWW (tb_5 _ (List.mem_of_getElem? (i := 181) rfl)) rfl
theorem ki_X10_failure : Cond.instanceMethod yX10_failure ∈ WW := inWW (tb_5 _ (List.mem_of_getElem? (i := 179) rfl)) rfl
theorem ks_X10_failure : Cond.selects RX10 yX10_failure yX10_failure ∈ WW := inWW (tb_5 _ (List.mem_of_getElem? (i := 180) rfl)) rfl
abbrev wsX10_step : List Cond := .code yX10_step cX10_step 2 (some .int) :: WW
theorem kc_X10_step : Cond.code yX10_step cX10_step 2 (some .int) ∈ WW := inWW (tb_5 _ (List.mem_of_getElem? (i := 185) rfl)) rfl
theorem ki_X10_step : Cond.instanceMethod yX10_step ∈ WW := inWW (tb_5 _ (List.mem_of_getElem? (i := 183) rfl)) rfl
theorem ks_X10_step : Cond.selects RX10 yX10_step yX10_step ∈ WW := inWW (tb_5 _ (List.mem_of_getElem? (i := 184) rfl)) rfl
abbrev wsX10_counter : List Cond := .code yX10_counter cX10_counter 2 (some .int) :: WW
theorem kc_X10_counter : Cond.code yX10_counter cX10_counter 2 (some .int) ∈ WW := inWW (tb_5 _ (List.mem_of_getElem? (i := 189) rfl)) rfl
theorem ki_X10_counter : Cond.instanceMethod yX10_counter ∈ WW := inWW (tb_5 _ (List.mem_of_getElem? (i := 187) rfl)) rfl
theorem ks_X10_counter : Cond.selects RX10 yX10_counter yX10_counter ∈ WW := inWW (tb_5 _ (List.mem_of_getElem? (i := 188) rfl)) rfl
abbrev wsX10_applicable : List Cond := .code yX10_applicable cX10_applicable 6 (some .int) :: WW
theorem kc_X10_applicable : Cond.code yX10_applicable cX10_applicable 6 (some .int) ∈ WW := inWW (tb_5 _ (List.mem_of_getElem? (i := 193) rfl)) rfl
theorem ki_X10_applicable : Cond.instanceMethod yX10_applicable ∈ WW := inWW (tb_5 _ (List.mem_of_getElem? (i := 191) rfl)) rfl
theorem ks_X10_applicable : Cond.selects RX10 yX10_applicable yX10_applicable ∈ WW := inWW (tb_5 _ (List.mem_of_getElem? (i := 192) rfl)) rfl
abbrev wsX10_most : List Cond := .code yX10_most cX10_most 2 (some .int) :: WW
theorem kc_X10_most : Cond.code yX10_most cX10_most 2 (some .int) ∈ WW := inWW (tb_5 _ (List.mem_of_getElem? (i := 197) rfl)) rfl
theorem ki_X10_most : Cond.instanceMethod yX10_most ∈ WW := inWW (tb_5 _ (List.mem_of_getElem? (i := 195) rfl)) rfl
theorem ks_X10_most : Cond.selects RX10 yX10_most yX10_most ∈ WW := inWW (tb_5 _ (List.mem_of_getElem? (i := 196) rfl)) rfl
abbrev wsX10_moreThan : List Cond := .code yX10_moreThan cX10_moreThan 5 (some .int) :: WW
theorem kc_X10_moreThan : Cond.code yX10_moreThan cX10_moreThan 5 (some .int) ∈ WW := inWW (tb_5 _ (List.mem_of_getElem? (i := 205) rfl)) rfl
theorem ki_X10_moreThan : Cond.instanceMethod yX10_moreThan ∈ WW := inWW (tb_5 _ (List.mem_of_getElem? (i := 204) rfl)) rfl
theorem ks_X10_moreThan : Cond.selects RX10 yX10_moreThan yX10_moreThan ∈ WW := inWW (List.mem_append_left _ (List.mem_of_getElem? (i := 57) rfl)) rfl
abbrev wsX10_explain : List Cond := .code yX10_explain cX10_explain 4 (some .int) :: WW
theorem kc_X10_explain : Cond.code yX10_explain cX10_explain 4 (some .int) ∈ WW := inWW (tb_5 _ (List.mem_of_getElem? (i := 201) rfl)) rfl
theorem ki_X10_explain : Cond.instanceMethod yX10_explain ∈ WW := inWW (tb_5 _ (List.mem_of_getElem? (i := 199) rfl)) rfl
theorem ks_X10_explain : Cond.selects RX10 yX10_explain yX10_explain ∈ WW := inWW (tb_5 _ (List.mem_of_getElem? (i := 200) rfl)) rfl
abbrev wsX10_where : List Cond := .code yX10_where cX10_where 1 (some .int) :: WW
theorem kc_X10_where : Cond.code yX10_where cX10_where 1 (some .int) ∈ WW := inWW (tb_5 _ (List.mem_of_getElem? (i := 209) rfl)) rfl
theorem ki_X10_where : Cond.instanceMethod yX10_where ∈ WW := inWW (tb_5 _ (List.mem_of_getElem? (i := 207) rfl)) rfl
theorem ks_X10_where : Cond.selects RX10 yX10_where yX10_where ∈ WW := inWW (tb_5 _ (List.mem_of_getElem? (i := 208) rfl)) rfl
abbrev wsX10_countAll : List Cond := .code yX10_countAll cX10_countAll 2 (some .int) :: WW
theorem kc_X10_countAll : Cond.code yX10_countAll cX10_countAll 2 (some .int) ∈ WW := inWW (tb_5 _ (List.mem_of_getElem? (i := 217) rfl)) rfl
theorem ki_X10_countAll : Cond.instanceMethod yX10_countAll ∈ WW := inWW (tb_5 _ (List.mem_of_getElem? (i := 216) rfl)) rfl
theorem ks_X10_countAll : Cond.selects RX10 yX10_countAll yX10_countAll ∈ WW := inWW (List.mem_append_left _ (List.mem_of_getElem? (i := 58) rfl)) rfl
abbrev wsX10_count : List Cond := .code yX10_count cX10_count 3 (some .int) :: WW
theorem kc_X10_count : Cond.code yX10_count cX10_count 3 (some .int) ∈ WW := inWW (tb_5 _ (List.mem_of_getElem? (i := 213) rfl)) rfl
theorem ki_X10_count : Cond.instanceMethod yX10_count ∈ WW := inWW (tb_5 _ (List.mem_of_getElem? (i := 211) rfl)) rfl
theorem ks_X10_count : Cond.selects RX10 yX10_count yX10_count ∈ WW := inWW (tb_5 _ (List.mem_of_getElem? (i := 212) rfl)) rfl
abbrev wsX10_findEdges : List Cond := .code yX10_findEdges cX10_findEdges 14 none :: WW
theorem kc_X10_findEdges : Cond.code yX10_findEdges cX10_findEdges 14 none ∈ WW := inWW (tb_5 _ (List.mem_of_getElem? (i := 238) rfl)) rfl
theorem ki_X10_findEdges : Cond.instanceMethod yX10_findEdges ∈ WW := inWW (tb_5 _ (List.mem_of_getElem? (i := 237) rfl)) rfl
theorem ks_X10_findEdges : Cond.selects RX10 yX10_findEdges yX10_findEdges ∈ WW := inWW (List.mem_append_left _ (List.mem_of_getElem? (i := 62) rfl)) rfl
abbrev wsX10_nextClass : List Cond := .code yX10_nextClass cX10_nextClass 3 (some .int) :: WW
theorem kc_X10_nextClass : Cond.code yX10_nextClass cX10_nextClass 3 (some .int) ∈ WW := inWW (tb_5 _ (List.mem_of_getElem? (i := 233) rfl)) rfl
theorem ki_X10_nextClass : Cond.instanceMethod yX10_nextClass ∈ WW := inWW (tb_5 _ (List.mem_of_getElem? (i := 232) rfl)) rfl
theorem ks_X10_nextClass : Cond.selects RX10 yX10_nextClass yX10_nextClass ∈ WW := inWW (List.mem_append_left _ (List.mem_of_getElem? (i := 61) rfl)) rfl
abbrev wsX10_firstTuple : List Cond := .code yX10_firstTuple cX10_firstTuple 3 (some .boolean) :: WW
theorem kc_X10_firstTuple : Cond.code yX10_firstTuple cX10_firstTuple 3 (some .boolean) ∈ WW := inWW (tb_5 _ (List.mem_of_getElem? (i := 229) rfl)) rfl
theorem ki_X10_firstTuple : Cond.instanceMethod yX10_firstTuple ∈ WW := inWW (tb_5 _ (List.mem_of_getElem? (i := 228) rfl)) rfl
theorem ks_X10_firstTuple : Cond.selects RX10 yX10_firstTuple yX10_firstTuple ∈ WW := inWW (List.mem_append_left _ (List.mem_of_getElem? (i := 60) rfl)) rfl
abbrev wsX10_nextAt : List Cond := .code yX10_nextAt cX10_nextAt 4 (some .boolean) :: WW
theorem kc_X10_nextAt : Cond.code yX10_nextAt cX10_nextAt 4 (some .boolean) ∈ WW := inWW (tb_6 _ (List.mem_of_getElem? (i := 6) rfl)) rfl
theorem ki_X10_nextAt : Cond.instanceMethod yX10_nextAt ∈ WW := inWW (tb_6 _ (List.mem_of_getElem? (i := 5) rfl)) rfl
theorem ks_X10_nextAt : Cond.selects RX10 yX10_nextAt yX10_nextAt ∈ WW := inWW (List.mem_append_left _ (List.mem_of_getElem? (i := 64) rfl)) rfl
abbrev wsX10_nextTuple : List Cond := .code yX10_nextTuple cX10_nextTuple 2 (some .boolean) :: WW
theorem kc_X10_nextTuple : Cond.code yX10_nextTuple cX10_nextTuple 2 (some .boolean) ∈ WW := inWW (tb_6 _ (List.mem_of_getElem? (i := 2) rfl)) rfl
theorem ki_X10_nextTuple : Cond.instanceMethod yX10_nextTuple ∈ WW := inWW (tb_6 _ (List.mem_of_getElem? (i := 1) rfl)) rfl
theorem ks_X10_nextTuple : Cond.selects RX10 yX10_nextTuple yX10_nextTuple ∈ WW := inWW (List.mem_append_left _ (List.mem_of_getElem? (i := 63) rfl)) rfl
abbrev wsX10_keepTuple : List Cond := .code yX10_keepTuple cX10_keepTuple 3 none :: WW
theorem kc_X10_keepTuple : Cond.code yX10_keepTuple cX10_keepTuple 3 none ∈ WW := inWW (tb_6 _ (List.mem_of_getElem? (i := 10) rfl)) rfl
theorem ki_X10_keepTuple : Cond.instanceMethod yX10_keepTuple ∈ WW := inWW (tb_6 _ (List.mem_of_getElem? (i := 9) rfl)) rfl
theorem ks_X10_keepTuple : Cond.selects RX10 yX10_keepTuple yX10_keepTuple ∈ WW := inWW (List.mem_append_left _ (List.mem_of_getElem? (i := 65) rfl)) rfl
abbrev wsX10_findHole : List Cond := .code yX10_findHole cX10_findHole 3 (some .boolean) :: WW
theorem kc_X10_findHole : Cond.code yX10_findHole cX10_findHole 3 (some .boolean) ∈ WW := inWW (tb_5 _ (List.mem_of_getElem? (i := 225) rfl)) rfl
theorem ki_X10_findHole : Cond.instanceMethod yX10_findHole ∈ WW := inWW (tb_5 _ (List.mem_of_getElem? (i := 224) rfl)) rfl
theorem ks_X10_findHole : Cond.selects RX10 yX10_findHole yX10_findHole ∈ WW := inWW (List.mem_append_left _ (List.mem_of_getElem? (i := 59) rfl)) rfl
abbrev wsX10_covered : List Cond := .code yX10_covered cX10_covered 2 (some .int) :: WW
theorem kc_X10_covered : Cond.code yX10_covered cX10_covered 2 (some .int) ∈ WW := inWW (tb_5 _ (List.mem_of_getElem? (i := 221) rfl)) rfl
theorem ki_X10_covered : Cond.instanceMethod yX10_covered ∈ WW := inWW (tb_5 _ (List.mem_of_getElem? (i := 219) rfl)) rfl
theorem ks_X10_covered : Cond.selects RX10 yX10_covered yX10_covered ∈ WW := inWW (tb_5 _ (List.mem_of_getElem? (i := 220) rfl)) rfl
abbrev wsX10_hole : List Cond := .code yX10_hole cX10_hole 3 (some .long) :: WW
theorem kc_X10_hole : Cond.code yX10_hole cX10_hole 3 (some .long) ∈ WW := inWW (tb_6 _ (List.mem_of_getElem? (i := 14) rfl)) rfl
theorem ki_X10_hole : Cond.instanceMethod yX10_hole ∈ WW := inWW (tb_6 _ (List.mem_of_getElem? (i := 12) rfl)) rfl
theorem ks_X10_hole : Cond.selects RX10 yX10_hole yX10_hole ∈ WW := inWW (tb_6 _ (List.mem_of_getElem? (i := 13) rfl)) rfl
abbrev wsX10_areInDoubt : List Cond := .code yX10_areInDoubt cX10_areInDoubt 6 (some .boolean) :: WW
theorem kc_X10_areInDoubt : Cond.code yX10_areInDoubt cX10_areInDoubt 6 (some .boolean) ∈ WW := inWW (tb_6 _ (List.mem_of_getElem? (i := 27) rfl)) rfl
theorem ki_X10_areInDoubt : Cond.instanceMethod yX10_areInDoubt ∈ WW := inWW (tb_6 _ (List.mem_of_getElem? (i := 26) rfl)) rfl
theorem ks_X10_areInDoubt : Cond.selects RX10 yX10_areInDoubt yX10_areInDoubt ∈ WW := inWW (List.mem_append_left _ (List.mem_of_getElem? (i := 67) rfl)) rfl
abbrev wsX10_findDoubt : List Cond := .code yX10_findDoubt cX10_findDoubt 7 (some .boolean) :: WW
theorem kc_X10_findDoubt : Cond.code yX10_findDoubt cX10_findDoubt 7 (some .boolean) ∈ WW := inWW (tb_6 _ (List.mem_of_getElem? (i := 23) rfl)) rfl
theorem ki_X10_findDoubt : Cond.instanceMethod yX10_findDoubt ∈ WW := inWW (tb_6 _ (List.mem_of_getElem? (i := 22) rfl)) rfl
theorem ks_X10_findDoubt : Cond.selects RX10 yX10_findDoubt yX10_findDoubt ∈ WW := inWW (List.mem_append_left _ (List.mem_of_getElem? (i := 66) rfl)) rfl
abbrev wsX10_doubt : List Cond := .code yX10_doubt cX10_doubt 8 (some .long) :: WW
theorem kc_X10_doubt : Cond.code yX10_doubt cX10_doubt 8 (some .long) ∈ WW := inWW (tb_6 _ (List.mem_of_getElem? (i := 19) rfl)) rfl
theorem ki_X10_doubt : Cond.instanceMethod yX10_doubt ∈ WW := inWW (tb_6 _ (List.mem_of_getElem? (i := 17) rfl)) rfl
theorem ks_X10_doubt : Cond.selects RX10 yX10_doubt yX10_doubt ∈ WW := inWW (tb_6 _ (List.mem_of_getElem? (i := 18) rfl)) rfl
abbrev wsJ9_floorMod_7cf53 : List Cond := .code yJ9_floorMod_7cf53 cJ9_floorMod_7cf53 3 (some .int) :: WW
theorem kc_J9_floorMod_7cf53 : Cond.code yJ9_floorMod_7cf53 cJ9_floorMod_7cf53 3 (some .int) ∈ WW := inWW (tb_3 _ (List.mem_of_getElem? (i := 166) rfl)) rfl
theorem kt_J9_floorMod_7cf53 : Cond.static yJ9_floorMod_7cf53 ∈ WW := inWW (tb_3 _ (List.mem_of_getElem? (i := 165) rfl)) rfl
abbrev wsJ9_min_f86c9 : List Cond := .code yJ9_min_f86c9 cJ9_min_f86c9 4 (some .long) :: WW
theorem kc_J9_min_f86c9 : Cond.code yJ9_min_f86c9 cJ9_min_f86c9 4 (some .long) ∈ WW := inWW (tb_3 _ (List.mem_of_getElem? (i := 126) rfl)) rfl
theorem kt_J9_min_f86c9 : Cond.static yJ9_min_f86c9 ∈ WW := inWW (tb_3 _ (List.mem_of_getElem? (i := 125) rfl)) rfl
abbrev wsJ7_fill_53178 : List Cond := .code yJ7_fill_53178 cJ7_fill_53178 4 none :: WW
theorem kc_J7_fill_53178 : Cond.code yJ7_fill_53178 cJ7_fill_53178 4 none ∈ WW := inWW (tb_1 _ (List.mem_of_getElem? (i := 30) rfl)) rfl
theorem kt_J7_fill_53178 : Cond.static yJ7_fill_53178 ∈ WW := inWW (tb_1 _ (List.mem_of_getElem? (i := 29) rfl)) rfl
theorem kz_X0 : Cond.initialized RX0 ∈ WW := inWW (tb_1 _ (List.mem_of_getElem? (i := 8) rfl)) rfl
theorem kn_X0 : Cond.instantiable RX0 7 ∈ WW := inWW (tb_1 _ (List.mem_of_getElem? (i := 135) rfl)) rfl
theorem kz_X1 : Cond.initialized RX1 ∈ WW := inWW (tb_1 _ (List.mem_of_getElem? (i := 10) rfl)) rfl
theorem kn_X1 : Cond.instantiable RX1 10 ∈ WW := inWW (tb_2 _ (List.mem_of_getElem? (i := 61) rfl)) rfl
theorem kz_X2 : Cond.initialized RX2 ∈ WW := inWW (tb_1 _ (List.mem_of_getElem? (i := 12) rfl)) rfl
theorem kn_X2 : Cond.instantiable RX2 9 ∈ WW := inWW (tb_2 _ (List.mem_of_getElem? (i := 150) rfl)) rfl
theorem kz_X3 : Cond.initialized RX3 ∈ WW := inWW (tb_1 _ (List.mem_of_getElem? (i := 6) rfl)) rfl
theorem kn_X3 : Cond.instantiable RX3 6 ∈ WW := inWW (tb_1 _ (List.mem_of_getElem? (i := 98) rfl)) rfl
theorem kz_X4 : Cond.initialized RX4 ∈ WW := inWW (tb_1 _ (List.mem_of_getElem? (i := 11) rfl)) rfl
theorem kn_X4 : Cond.instantiable RX4 7 ∈ WW := inWW (tb_2 _ (List.mem_of_getElem? (i := 67) rfl)) rfl
theorem kz_X5 : Cond.initialized RX5 ∈ WW := inWW (tb_1 _ (List.mem_of_getElem? (i := 7) rfl)) rfl
theorem kn_X5 : Cond.instantiable RX5 6 ∈ WW := inWW (tb_1 _ (List.mem_of_getElem? (i := 129) rfl)) rfl
theorem kz_X6 : Cond.initialized RX6 ∈ WW := inWW (tb_1 _ (List.mem_of_getElem? (i := 5) rfl)) rfl
theorem kn_X6 : Cond.instantiable RX6 3 ∈ WW := inWW (tb_1 _ (List.mem_of_getElem? (i := 75) rfl)) rfl
theorem kz_X7 : Cond.initialized RX7 ∈ WW := inWW (tb_1 _ (List.mem_of_getElem? (i := 4) rfl)) rfl
theorem kn_X7 : Cond.instantiable RX7 3 ∈ WW := inWW (tb_1 _ (List.mem_of_getElem? (i := 52) rfl)) rfl
theorem kz_X8 : Cond.initialized RX8 ∈ WW := inWW (tb_1 _ (List.mem_of_getElem? (i := 2) rfl)) rfl
theorem kn_X8 : Cond.instantiable RX8 5 ∈ WW := inWW (tb_1 _ (List.mem_of_getElem? (i := 23) rfl)) rfl
theorem kz_X9 : Cond.initialized RX9 ∈ WW := inWW (tb_1 _ (List.mem_of_getElem? (i := 1) rfl)) rfl
theorem kn_X9 : Cond.instantiable RX9 12 ∈ WW := inWW (tb_1 _ (List.mem_of_getElem? (i := 15) rfl)) rfl
theorem kz_X10 : Cond.initialized RX10 ∈ WW := inWW (tb_1 _ (List.mem_of_getElem? (i := 9) rfl)) rfl
theorem kn_X10 : Cond.instantiable RX10 39 ∈ WW := inWW (tb_4 _ (List.mem_of_getElem? (i := 74) rfl)) rfl
theorem kz_J9 : Cond.initialized RJ9 ∈ WW := inWW (tb_1 _ (List.mem_of_getElem? (i := 13) rfl)) rfl
theorem kz_J7 : Cond.initialized RJ7 ∈ WW := inWW (tb_1 _ (List.mem_of_getElem? (i := 3) rfl)) rfl
theorem kz_L : Cond.initialized RL ∈ WW := inWW (tb_1 _ (List.mem_of_getElem? (i := 0) rfl)) rfl
theorem kl_L_7 : Cond.classLink RL 7 RX9 ∈ WW := inWW (tb_1 _ (List.mem_of_getElem? (i := 14) rfl)) rfl
theorem km_L_9 : Cond.methodLink RL 9 yX9_init ∈ WW := inWW (tb_1 _ (List.mem_of_getElem? (i := 16) rfl)) rfl
theorem km_X9_3 : Cond.methodLink RX9 3 objectInit ∈ WW := inWW (tb_1 _ (List.mem_of_getElem? (i := 19) rfl)) rfl
theorem kl_X9_9 : Cond.classLink RX9 9 RX8 ∈ WW := inWW (tb_1 _ (List.mem_of_getElem? (i := 22) rfl)) rfl
theorem km_X9_11 : Cond.methodLink RX9 11 yX8_init ∈ WW := inWW (tb_1 _ (List.mem_of_getElem? (i := 24) rfl)) rfl
theorem km_X8_3 : Cond.methodLink RX8 3 objectInit ∈ WW := inWW (tb_1 _ (List.mem_of_getElem? (i := 27) rfl)) rfl
theorem km_X8_29 : Cond.methodLink RX8 29 yJ7_fill_53178 ∈ WW := inWW (tb_1 _ (List.mem_of_getElem? (i := 28) rfl)) rfl
theorem kf_X8_9 : Cond.fieldLink RX8 9 "CallBoard$Table" "parents" "[I" ∈ WW := inWW (tb_1 _ (List.mem_of_getElem? (i := 31) rfl)) rfl
theorem kf_X9_81 : Cond.fieldLink RX9 81 "CallBoard$Table" "parents" "[I" ∈ WW := inWW (tb_1 _ (List.mem_of_getElem? (i := 32) rfl)) rfl
theorem kf_X8_15 : Cond.fieldLink RX8 15 "CallBoard$Table" "traits" "[I" ∈ WW := inWW (tb_1 _ (List.mem_of_getElem? (i := 33) rfl)) rfl
theorem kf_X8_18 : Cond.fieldLink RX8 18 "CallBoard$Table" "reach" "[I" ∈ WW := inWW (tb_1 _ (List.mem_of_getElem? (i := 34) rfl)) rfl
theorem kf_X8_21 : Cond.fieldLink RX8 21 "CallBoard$Table" "abstracts" "I" ∈ WW := inWW (tb_1 _ (List.mem_of_getElem? (i := 35) rfl)) rfl
theorem kf_X9_94 : Cond.fieldLink RX9 94 "CallBoard$Table" "abstracts" "I" ∈ WW := inWW (tb_1 _ (List.mem_of_getElem? (i := 36) rfl)) rfl
theorem kf_X8_25 : Cond.fieldLink RX8 25 "CallBoard$Table" "closed" "Z" ∈ WW := inWW (tb_1 _ (List.mem_of_getElem? (i := 37) rfl)) rfl
theorem kf_X9_77 : Cond.fieldLink RX9 77 "CallBoard$Table" "closed" "Z" ∈ WW := inWW (tb_1 _ (List.mem_of_getElem? (i := 38) rfl)) rfl
theorem ka_int : Cond.arrayClass .int ∈ WW := inWW (tb_1 _ (List.mem_of_getElem? (i := 50) rfl)) rfl
theorem kl_X9_16 : Cond.classLink RX9 16 RX7 ∈ WW := inWW (tb_1 _ (List.mem_of_getElem? (i := 51) rfl)) rfl
theorem km_X7_3 : Cond.methodLink RX7 3 objectInit ∈ WW := inWW (tb_1 _ (List.mem_of_getElem? (i := 56) rfl)) rfl
theorem kf_X7_9 : Cond.fieldLink RX7 9 "CallBoard$Stock" "classes" "[I" ∈ WW := inWW (tb_1 _ (List.mem_of_getElem? (i := 57) rfl)) rfl
theorem kf_X9_117 : Cond.fieldLink RX9 117 "CallBoard$Stock" "classes" "[I" ∈ WW := inWW (tb_1 _ (List.mem_of_getElem? (i := 58) rfl)) rfl
theorem kf_X7_15 : Cond.fieldLink RX7 15 "CallBoard$Stock" "weights" "[I" ∈ WW := inWW (tb_1 _ (List.mem_of_getElem? (i := 59) rfl)) rfl
theorem kf_X9_120 : Cond.fieldLink RX9 120 "CallBoard$Stock" "weights" "[I" ∈ WW := inWW (tb_1 _ (List.mem_of_getElem? (i := 60) rfl)) rfl
theorem kf_X7_18 : Cond.fieldLink RX7 18 "CallBoard$Stock" "size" "I" ∈ WW := inWW (tb_1 _ (List.mem_of_getElem? (i := 61) rfl)) rfl
theorem kf_X9_123 : Cond.fieldLink RX9 123 "CallBoard$Stock" "size" "I" ∈ WW := inWW (tb_1 _ (List.mem_of_getElem? (i := 62) rfl)) rfl
theorem kl_X9_23 : Cond.classLink RX9 23 RX1 ∈ WW := inWW (tb_1 _ (List.mem_of_getElem? (i := 70) rfl)) rfl
theorem ko_X1 : Cond.arrayOver (.object RX1) ∈ lw_tbl := tb_1 _ (List.mem_of_getElem? (i := 71) rfl)
theorem kl_X9_29 : Cond.classLink RX9 29 RX2 ∈ WW := inWW (tb_1 _ (List.mem_of_getElem? (i := 72) rfl)) rfl
theorem ko_X2 : Cond.arrayOver (.object RX2) ∈ lw_tbl := tb_1 _ (List.mem_of_getElem? (i := 73) rfl)
theorem kl_X9_42 : Cond.classLink RX9 42 RX6 ∈ WW := inWW (tb_1 _ (List.mem_of_getElem? (i := 74) rfl)) rfl
theorem km_X6_3 : Cond.methodLink RX6 3 objectInit ∈ WW := inWW (tb_1 _ (List.mem_of_getElem? (i := 79) rfl)) rfl
theorem kf_X6_9 : Cond.fieldLink RX6 9 "CallBoard$Row" "classes" "[I" ∈ WW := inWW (tb_1 _ (List.mem_of_getElem? (i := 80) rfl)) rfl
theorem kf_X2_67 : Cond.fieldLink RX2 67 "CallBoard$Row" "classes" "[I" ∈ WW := inWW (tb_1 _ (List.mem_of_getElem? (i := 81) rfl)) rfl
theorem kf_X1_84 : Cond.fieldLink RX1 84 "CallBoard$Row" "classes" "[I" ∈ WW := inWW (tb_1 _ (List.mem_of_getElem? (i := 82) rfl)) rfl
theorem kf_X9_283 : Cond.fieldLink RX9 283 "CallBoard$Row" "classes" "[I" ∈ WW := inWW (tb_1 _ (List.mem_of_getElem? (i := 83) rfl)) rfl
theorem kf_X6_15 : Cond.fieldLink RX6 15 "CallBoard$Row" "weights" "[I" ∈ WW := inWW (tb_1 _ (List.mem_of_getElem? (i := 84) rfl)) rfl
theorem kf_X2_75 : Cond.fieldLink RX2 75 "CallBoard$Row" "weights" "[I" ∈ WW := inWW (tb_1 _ (List.mem_of_getElem? (i := 85) rfl)) rfl
theorem kf_X1_92 : Cond.fieldLink RX1 92 "CallBoard$Row" "weights" "[I" ∈ WW := inWW (tb_1 _ (List.mem_of_getElem? (i := 86) rfl)) rfl
theorem kf_X9_284 : Cond.fieldLink RX9 284 "CallBoard$Row" "weights" "[I" ∈ WW := inWW (tb_1 _ (List.mem_of_getElem? (i := 87) rfl)) rfl
theorem kf_X6_18 : Cond.fieldLink RX6 18 "CallBoard$Row" "places" "I" ∈ WW := inWW (tb_1 _ (List.mem_of_getElem? (i := 88) rfl)) rfl
theorem kf_X9_285 : Cond.fieldLink RX9 285 "CallBoard$Row" "places" "I" ∈ WW := inWW (tb_1 _ (List.mem_of_getElem? (i := 89) rfl)) rfl
theorem kl_X9_49 : Cond.classLink RX9 49 RX3 ∈ WW := inWW (tb_1 _ (List.mem_of_getElem? (i := 97) rfl)) rfl
theorem km_X3_3 : Cond.methodLink RX3 3 objectInit ∈ WW := inWW (tb_1 _ (List.mem_of_getElem? (i := 102) rfl)) rfl
theorem kf_X3_9 : Cond.fieldLink RX3 9 "CallBoard$Latest" "steps" "[I" ∈ WW := inWW (tb_1 _ (List.mem_of_getElem? (i := 103) rfl)) rfl
theorem kf_X9_229 : Cond.fieldLink RX9 229 "CallBoard$Latest" "steps" "[I" ∈ WW := inWW (tb_1 _ (List.mem_of_getElem? (i := 104) rfl)) rfl
theorem kf_X3_15 : Cond.fieldLink RX3 15 "CallBoard$Latest" "stepCount" "I" ∈ WW := inWW (tb_1 _ (List.mem_of_getElem? (i := 105) rfl)) rfl
theorem kf_X9_226 : Cond.fieldLink RX9 226 "CallBoard$Latest" "stepCount" "I" ∈ WW := inWW (tb_1 _ (List.mem_of_getElem? (i := 106) rfl)) rfl
theorem kf_X3_19 : Cond.fieldLink RX3 19 "CallBoard$Latest" "deepest" "I" ∈ WW := inWW (tb_1 _ (List.mem_of_getElem? (i := 107) rfl)) rfl
theorem kf_X9_209 : Cond.fieldLink RX9 209 "CallBoard$Latest" "deepest" "I" ∈ WW := inWW (tb_1 _ (List.mem_of_getElem? (i := 108) rfl)) rfl
theorem kf_X3_22 : Cond.fieldLink RX3 22 "CallBoard$Latest" "outcome" "I" ∈ WW := inWW (tb_1 _ (List.mem_of_getElem? (i := 109) rfl)) rfl
theorem kf_X9_216 : Cond.fieldLink RX9 216 "CallBoard$Latest" "outcome" "I" ∈ WW := inWW (tb_1 _ (List.mem_of_getElem? (i := 110) rfl)) rfl
theorem kf_X3_25 : Cond.fieldLink RX3 25 "CallBoard$Latest" "failed" "I" ∈ WW := inWW (tb_1 _ (List.mem_of_getElem? (i := 111) rfl)) rfl
theorem kf_X9_223 : Cond.fieldLink RX9 223 "CallBoard$Latest" "failed" "I" ∈ WW := inWW (tb_1 _ (List.mem_of_getElem? (i := 112) rfl)) rfl
theorem kf_X3_28 : Cond.fieldLink RX3 28 "CallBoard$Latest" "sum" "J" ∈ WW := inWW (tb_1 _ (List.mem_of_getElem? (i := 113) rfl)) rfl
theorem kf_X9_219 : Cond.fieldLink RX9 219 "CallBoard$Latest" "sum" "J" ∈ WW := inWW (tb_1 _ (List.mem_of_getElem? (i := 114) rfl)) rfl
theorem kl_X9_56 : Cond.classLink RX9 56 RX5 ∈ WW := inWW (tb_1 _ (List.mem_of_getElem? (i := 128) rfl)) rfl
theorem km_X5_3 : Cond.methodLink RX5 3 objectInit ∈ WW := inWW (tb_1 _ (List.mem_of_getElem? (i := 133) rfl)) rfl
theorem kl_X5_9 : Cond.classLink RX5 9 RX0 ∈ WW := inWW (tb_1 _ (List.mem_of_getElem? (i := 134) rfl)) rfl
theorem km_X0_3 : Cond.methodLink RX0 3 objectInit ∈ WW := inWW (tb_1 _ (List.mem_of_getElem? (i := 139) rfl)) rfl
theorem kf_X0_9 : Cond.fieldLink RX0 9 "CallBoard$Cells" "classes" "[I" ∈ WW := inWW (tb_1 _ (List.mem_of_getElem? (i := 140) rfl)) rfl
theorem kf_X5_75 : Cond.fieldLink RX5 75 "CallBoard$Cells" "classes" "[I" ∈ WW := inWW (tb_1 _ (List.mem_of_getElem? (i := 141) rfl)) rfl
theorem kf_X0_15 : Cond.fieldLink RX0 15 "CallBoard$Cells" "weights" "[I" ∈ WW := inWW (tb_1 _ (List.mem_of_getElem? (i := 142) rfl)) rfl
theorem kf_X5_78 : Cond.fieldLink RX5 78 "CallBoard$Cells" "weights" "[I" ∈ WW := inWW (tb_1 _ (List.mem_of_getElem? (i := 143) rfl)) rfl
theorem kf_X0_18 : Cond.fieldLink RX0 18 "CallBoard$Cells" "takers" "[I" ∈ WW := inWW (tb_1 _ (List.mem_of_getElem? (i := 144) rfl)) rfl
theorem kf_X5_45 : Cond.fieldLink RX5 45 "CallBoard$Cells" "takers" "[I" ∈ WW := inWW (tb_1 _ (List.mem_of_getElem? (i := 145) rfl)) rfl
theorem kf_X0_21 : Cond.fieldLink RX0 21 "CallBoard$Cells" "size" "I" ∈ WW := inWW (tb_1 _ (List.mem_of_getElem? (i := 146) rfl)) rfl
theorem kf_X5_42 : Cond.fieldLink RX5 42 "CallBoard$Cells" "size" "I" ∈ WW := inWW (tb_1 _ (List.mem_of_getElem? (i := 147) rfl)) rfl
theorem kf_X0_25 : Cond.fieldLink RX0 25 "CallBoard$Cells" "starts" "[I" ∈ WW := inWW (tb_1 _ (List.mem_of_getElem? (i := 148) rfl)) rfl
theorem kf_X0_28 : Cond.fieldLink RX0 28 "CallBoard$Cells" "startTakers" "[I" ∈ WW := inWW (tb_1 _ (List.mem_of_getElem? (i := 149) rfl)) rfl
theorem kf_X0_31 : Cond.fieldLink RX0 31 "CallBoard$Cells" "startCount" "I" ∈ WW := inWW (tb_1 _ (List.mem_of_getElem? (i := 150) rfl)) rfl
theorem kf_X5_12 : Cond.fieldLink RX5 12 "CallBoard$Proof" "first" "LCallBoard$Cells;" ∈ WW := inWW (tb_1 _ (List.mem_of_getElem? (i := 166) rfl)) rfl
theorem kf_X5_18 : Cond.fieldLink RX5 18 "CallBoard$Proof" "second" "LCallBoard$Cells;" ∈ WW := inWW (tb_1 _ (List.mem_of_getElem? (i := 167) rfl)) rfl
theorem kf_X5_21 : Cond.fieldLink RX5 21 "CallBoard$Proof" "atFirst" "I" ∈ WW := inWW (tb_1 _ (List.mem_of_getElem? (i := 168) rfl)) rfl
theorem kf_X5_25 : Cond.fieldLink RX5 25 "CallBoard$Proof" "atSecond" "I" ∈ WW := inWW (tb_1 _ (List.mem_of_getElem? (i := 169) rfl)) rfl
theorem kf_X5_28 : Cond.fieldLink RX5 28 "CallBoard$Proof" "lesser" "I" ∈ WW := inWW (tb_1 _ (List.mem_of_getElem? (i := 170) rfl)) rfl
theorem kf_X9_277 : Cond.fieldLink RX9 277 "CallBoard$Proof" "lesser" "I" ∈ WW := inWW (tb_1 _ (List.mem_of_getElem? (i := 171) rfl)) rfl
theorem kf_X5_31 : Cond.fieldLink RX5 31 "CallBoard$Proof" "greater" "I" ∈ WW := inWW (tb_1 _ (List.mem_of_getElem? (i := 172) rfl)) rfl
theorem kf_X9_280 : Cond.fieldLink RX9 280 "CallBoard$Proof" "greater" "I" ∈ WW := inWW (tb_1 _ (List.mem_of_getElem? (i := 173) rfl)) rfl
theorem kf_X9_12 : Cond.fieldLink RX9 12 "CallBoard" "table" "LCallBoard$Table;" ∈ WW := inWW (tb_1 _ (List.mem_of_getElem? (i := 187) rfl)) rfl
theorem kf_X9_19 : Cond.fieldLink RX9 19 "CallBoard" "stock" "LCallBoard$Stock;" ∈ WW := inWW (tb_1 _ (List.mem_of_getElem? (i := 188) rfl)) rfl
theorem kf_X9_25 : Cond.fieldLink RX9 25 "CallBoard" "functions" "[LCallBoard$Function;" ∈ WW := inWW (tb_1 _ (List.mem_of_getElem? (i := 189) rfl)) rfl
theorem kf_X9_31 : Cond.fieldLink RX9 31 "CallBoard" "handlers" "[LCallBoard$Handler;" ∈ WW := inWW (tb_1 _ (List.mem_of_getElem? (i := 190) rfl)) rfl
theorem kf_X9_35 : Cond.fieldLink RX9 35 "CallBoard" "told" "[I" ∈ WW := inWW (tb_1 _ (List.mem_of_getElem? (i := 191) rfl)) rfl
theorem kf_X9_39 : Cond.fieldLink RX9 39 "CallBoard" "counters" "[I" ∈ WW := inWW (tb_1 _ (List.mem_of_getElem? (i := 192) rfl)) rfl
theorem kf_X9_45 : Cond.fieldLink RX9 45 "CallBoard" "row" "LCallBoard$Row;" ∈ WW := inWW (tb_1 _ (List.mem_of_getElem? (i := 193) rfl)) rfl
theorem kf_X9_52 : Cond.fieldLink RX9 52 "CallBoard" "latest" "LCallBoard$Latest;" ∈ WW := inWW (tb_1 _ (List.mem_of_getElem? (i := 194) rfl)) rfl
theorem kf_X9_59 : Cond.fieldLink RX9 59 "CallBoard" "proof" "LCallBoard$Proof;" ∈ WW := inWW (tb_1 _ (List.mem_of_getElem? (i := 195) rfl)) rfl
theorem kf_X9_63 : Cond.fieldLink RX9 63 "CallBoard" "functionCount" "I" ∈ WW := inWW (tb_1 _ (List.mem_of_getElem? (i := 196) rfl)) rfl
theorem kf_X9_67 : Cond.fieldLink RX9 67 "CallBoard" "handlerCount" "I" ∈ WW := inWW (tb_1 _ (List.mem_of_getElem? (i := 197) rfl)) rfl
theorem kf_X9_70 : Cond.fieldLink RX9 70 "CallBoard" "explained" "I" ∈ WW := inWW (tb_1 _ (List.mem_of_getElem? (i := 198) rfl)) rfl
theorem km_L_13 : Cond.methodLink RL 13 yX9_parent ∈ WW := inWW (tb_1 _ (List.mem_of_getElem? (i := 224) rfl)) rfl
theorem km_X9_73 : Cond.methodLink RX9 73 yX9_isClass ∈ WW := inWW (tb_1 _ (List.mem_of_getElem? (i := 228) rfl)) rfl
theorem km_L_18 : Cond.methodLink RL 18 yX9_trait ∈ WW := inWW (tb_1 _ (List.mem_of_getElem? (i := 231) rfl)) rfl
theorem km_X9_84 : Cond.methodLink RX9 84 yX9_isTrait ∈ WW := inWW (tb_1 _ (List.mem_of_getElem? (i := 235) rfl)) rfl
theorem km_X9_87 : Cond.methodLink RX9 87 yX8_addTrait ∈ WW := inWW (tb_1 _ (List.mem_of_getElem? (i := 238) rfl)) rfl
theorem km_L_22 : Cond.methodLink RL 22 yX9_has ∈ WW := inWW (tb_2 _ (List.mem_of_getElem? (i := 2) rfl)) rfl
theorem km_L_26 : Cond.methodLink RL 26 yX9_flag ∈ WW := inWW (tb_2 _ (List.mem_of_getElem? (i := 6) rfl)) rfl
theorem km_X9_91 : Cond.methodLink RX9 91 yX8_isAbstract ∈ WW := inWW (tb_2 _ (List.mem_of_getElem? (i := 10) rfl)) rfl
theorem km_L_31 : Cond.methodLink RL 31 yX9_close ∈ WW := inWW (tb_2 _ (List.mem_of_getElem? (i := 14) rfl)) rfl
theorem km_X9_97 : Cond.methodLink RX9 97 yX8_findReach ∈ WW := inWW (tb_2 _ (List.mem_of_getElem? (i := 18) rfl)) rfl
theorem km_X9_100 : Cond.methodLink RX9 100 yX8_goesRound ∈ WW := inWW (tb_2 _ (List.mem_of_getElem? (i := 22) rfl)) rfl
theorem km_L_36 : Cond.methodLink RL 36 yX9_below ∈ WW := inWW (tb_2 _ (List.mem_of_getElem? (i := 26) rfl)) rfl
theorem km_X9_104 : Cond.methodLink RX9 104 yX9_isCode ∈ WW := inWW (tb_2 _ (List.mem_of_getElem? (i := 30) rfl)) rfl
theorem km_X9_107 : Cond.methodLink RX9 107 yX8_isBelow ∈ WW := inWW (tb_2 _ (List.mem_of_getElem? (i := 33) rfl)) rfl
theorem km_L_41 : Cond.methodLink RL 41 yX9_sample ∈ WW := inWW (tb_2 _ (List.mem_of_getElem? (i := 37) rfl)) rfl
theorem km_X9_111 : Cond.methodLink RX9 111 yX7_bring ∈ WW := inWW (tb_2 _ (List.mem_of_getElem? (i := 41) rfl)) rfl
theorem km_L_45 : Cond.methodLink RL 45 yX9_of ∈ WW := inWW (tb_2 _ (List.mem_of_getElem? (i := 45) rfl)) rfl
theorem km_X9_114 : Cond.methodLink RX9 114 yX7_holds ∈ WW := inWW (tb_2 _ (List.mem_of_getElem? (i := 49) rfl)) rfl
theorem km_L_49 : Cond.methodLink RL 49 yX9_samples ∈ WW := inWW (tb_2 _ (List.mem_of_getElem? (i := 53) rfl)) rfl
theorem km_L_53 : Cond.methodLink RL 53 yX9_function ∈ WW := inWW (tb_2 _ (List.mem_of_getElem? (i := 57) rfl)) rfl
theorem km_X9_126 : Cond.methodLink RX9 126 yX1_init ∈ WW := inWW (tb_2 _ (List.mem_of_getElem? (i := 62) rfl)) rfl
theorem km_X1_3 : Cond.methodLink RX1 3 objectInit ∈ WW := inWW (tb_2 _ (List.mem_of_getElem? (i := 65) rfl)) rfl
theorem kl_X1_9 : Cond.classLink RX1 9 RX4 ∈ WW := inWW (tb_2 _ (List.mem_of_getElem? (i := 66) rfl)) rfl
theorem km_X4_3 : Cond.methodLink RX4 3 objectInit ∈ WW := inWW (tb_2 _ (List.mem_of_getElem? (i := 71) rfl)) rfl
theorem kf_X4_9 : Cond.fieldLink RX4 9 "CallBoard$Memory" "classes" "[I" ∈ WW := inWW (tb_2 _ (List.mem_of_getElem? (i := 72) rfl)) rfl
theorem kf_X4_15 : Cond.fieldLink RX4 15 "CallBoard$Memory" "firstPieces" "[J" ∈ WW := inWW (tb_2 _ (List.mem_of_getElem? (i := 73) rfl)) rfl
theorem kf_X4_19 : Cond.fieldLink RX4 19 "CallBoard$Memory" "secondPieces" "[J" ∈ WW := inWW (tb_2 _ (List.mem_of_getElem? (i := 74) rfl)) rfl
theorem kf_X4_22 : Cond.fieldLink RX4 22 "CallBoard$Memory" "looked" "[I" ∈ WW := inWW (tb_2 _ (List.mem_of_getElem? (i := 75) rfl)) rfl
theorem kf_X4_25 : Cond.fieldLink RX4 25 "CallBoard$Memory" "looks" "I" ∈ WW := inWW (tb_2 _ (List.mem_of_getElem? (i := 76) rfl)) rfl
theorem kf_X4_29 : Cond.fieldLink RX4 29 "CallBoard$Memory" "size" "I" ∈ WW := inWW (tb_2 _ (List.mem_of_getElem? (i := 77) rfl)) rfl
theorem kf_X9_264 : Cond.fieldLink RX9 264 "CallBoard$Memory" "size" "I" ∈ WW := inWW (tb_2 _ (List.mem_of_getElem? (i := 78) rfl)) rfl
theorem kf_X4_32 : Cond.fieldLink RX4 32 "CallBoard$Memory" "hits" "I" ∈ WW := inWW (tb_2 _ (List.mem_of_getElem? (i := 79) rfl)) rfl
theorem kf_X9_259 : Cond.fieldLink RX9 259 "CallBoard$Memory" "hits" "I" ∈ WW := inWW (tb_2 _ (List.mem_of_getElem? (i := 80) rfl)) rfl
theorem ka_long : Cond.arrayClass .long ∈ WW := inWW (tb_2 _ (List.mem_of_getElem? (i := 96) rfl)) rfl
theorem kl_X1_22 : Cond.classLink RX1 22 RX2 ∈ WW := inWW (tb_2 _ (List.mem_of_getElem? (i := 97) rfl)) rfl
theorem kf_X1_42 : Cond.fieldLink RX1 42 "CallBoard$Function" "table" "LCallBoard$Table;" ∈ WW := inWW (tb_2 _ (List.mem_of_getElem? (i := 98) rfl)) rfl
theorem kf_X2_57 : Cond.fieldLink RX2 57 "CallBoard$Function" "table" "LCallBoard$Table;" ∈ WW := inWW (tb_2 _ (List.mem_of_getElem? (i := 99) rfl)) rfl
theorem kf_X0_51 : Cond.fieldLink RX0 51 "CallBoard$Function" "table" "LCallBoard$Table;" ∈ WW := inWW (tb_2 _ (List.mem_of_getElem? (i := 100) rfl)) rfl
theorem kf_X1_46 : Cond.fieldLink RX1 46 "CallBoard$Function" "number" "I" ∈ WW := inWW (tb_2 _ (List.mem_of_getElem? (i := 101) rfl)) rfl
theorem kf_X9_173 : Cond.fieldLink RX9 173 "CallBoard$Function" "number" "I" ∈ WW := inWW (tb_2 _ (List.mem_of_getElem? (i := 102) rfl)) rfl
theorem kf_X2_32 : Cond.fieldLink RX2 32 "CallBoard$Function" "places" "I" ∈ WW := inWW (tb_2 _ (List.mem_of_getElem? (i := 103) rfl)) rfl
theorem kf_X1_49 : Cond.fieldLink RX1 49 "CallBoard$Function" "places" "I" ∈ WW := inWW (tb_2 _ (List.mem_of_getElem? (i := 104) rfl)) rfl
theorem kf_X9_252 : Cond.fieldLink RX9 252 "CallBoard$Function" "places" "I" ∈ WW := inWW (tb_2 _ (List.mem_of_getElem? (i := 105) rfl)) rfl
theorem kf_X1_12 : Cond.fieldLink RX1 12 "CallBoard$Function" "memory" "LCallBoard$Memory;" ∈ WW := inWW (tb_2 _ (List.mem_of_getElem? (i := 106) rfl)) rfl
theorem kf_X9_255 : Cond.fieldLink RX9 255 "CallBoard$Function" "memory" "LCallBoard$Memory;" ∈ WW := inWW (tb_2 _ (List.mem_of_getElem? (i := 107) rfl)) rfl
theorem kf_X1_18 : Cond.fieldLink RX1 18 "CallBoard$Function" "ordered" "[I" ∈ WW := inWW (tb_2 _ (List.mem_of_getElem? (i := 108) rfl)) rfl
theorem kf_X9_195 : Cond.fieldLink RX9 195 "CallBoard$Function" "ordered" "[I" ∈ WW := inWW (tb_2 _ (List.mem_of_getElem? (i := 109) rfl)) rfl
theorem kf_X1_24 : Cond.fieldLink RX1 24 "CallBoard$Function" "laid" "[LCallBoard$Handler;" ∈ WW := inWW (tb_2 _ (List.mem_of_getElem? (i := 110) rfl)) rfl
theorem kf_X1_28 : Cond.fieldLink RX1 28 "CallBoard$Function" "beaten" "[I" ∈ WW := inWW (tb_2 _ (List.mem_of_getElem? (i := 111) rfl)) rfl
theorem kf_X1_31 : Cond.fieldLink RX1 31 "CallBoard$Function" "laidCount" "I" ∈ WW := inWW (tb_2 _ (List.mem_of_getElem? (i := 112) rfl)) rfl
theorem kf_X5_59 : Cond.fieldLink RX5 59 "CallBoard$Function" "laidCount" "I" ∈ WW := inWW (tb_2 _ (List.mem_of_getElem? (i := 113) rfl)) rfl
theorem kf_X0_75 : Cond.fieldLink RX0 75 "CallBoard$Function" "laidCount" "I" ∈ WW := inWW (tb_2 _ (List.mem_of_getElem? (i := 114) rfl)) rfl
theorem kf_X9_192 : Cond.fieldLink RX9 192 "CallBoard$Function" "laidCount" "I" ∈ WW := inWW (tb_2 _ (List.mem_of_getElem? (i := 115) rfl)) rfl
theorem kf_X1_35 : Cond.fieldLink RX1 35 "CallBoard$Function" "plain" "I" ∈ WW := inWW (tb_2 _ (List.mem_of_getElem? (i := 116) rfl)) rfl
theorem kf_X0_40 : Cond.fieldLink RX0 40 "CallBoard$Function" "plain" "I" ∈ WW := inWW (tb_2 _ (List.mem_of_getElem? (i := 117) rfl)) rfl
theorem kf_X5_66 : Cond.fieldLink RX5 66 "CallBoard$Function" "plain" "I" ∈ WW := inWW (tb_2 _ (List.mem_of_getElem? (i := 118) rfl)) rfl
theorem kf_X1_38 : Cond.fieldLink RX1 38 "CallBoard$Function" "frozen" "Z" ∈ WW := inWW (tb_2 _ (List.mem_of_getElem? (i := 119) rfl)) rfl
theorem kf_X9_159 : Cond.fieldLink RX9 159 "CallBoard$Function" "frozen" "Z" ∈ WW := inWW (tb_2 _ (List.mem_of_getElem? (i := 120) rfl)) rfl
theorem km_L_57 : Cond.methodLink RL 57 yX9_handler ∈ WW := inWW (tb_2 _ (List.mem_of_getElem? (i := 142) rfl)) rfl
theorem km_X9_129 : Cond.methodLink RX9 129 yX9_functionAt ∈ WW := inWW (tb_2 _ (List.mem_of_getElem? (i := 146) rfl)) rfl
theorem km_X9_133 : Cond.methodLink RX9 133 yX2_init ∈ WW := inWW (tb_2 _ (List.mem_of_getElem? (i := 151) rfl)) rfl
theorem km_X2_3 : Cond.methodLink RX2 3 objectInit ∈ WW := inWW (tb_2 _ (List.mem_of_getElem? (i := 154) rfl)) rfl
theorem km_X2_47 : Cond.methodLink RX2 47 yJ7_fill_53178 ∈ WW := inWW (tb_2 _ (List.mem_of_getElem? (i := 155) rfl)) rfl
theorem kk_X2_55 : Cond.constant RX2 55 (-2147483648) ∈ WW := inWW (tb_2 _ (List.mem_of_getElem? (i := 156) rfl)) rfl
theorem kk_X2_56 : Cond.constant RX2 56 (2147483647) ∈ WW := inWW (tb_2 _ (List.mem_of_getElem? (i := 157) rfl)) rfl
theorem kf_X2_15 : Cond.fieldLink RX2 15 "CallBoard$Handler" "owner" "LCallBoard$Function;" ∈ WW := inWW (tb_2 _ (List.mem_of_getElem? (i := 158) rfl)) rfl
theorem kf_X9_140 : Cond.fieldLink RX9 140 "CallBoard$Handler" "owner" "LCallBoard$Function;" ∈ WW := inWW (tb_2 _ (List.mem_of_getElem? (i := 159) rfl)) rfl
theorem kf_X2_19 : Cond.fieldLink RX2 19 "CallBoard$Handler" "number" "I" ∈ WW := inWW (tb_2 _ (List.mem_of_getElem? (i := 160) rfl)) rfl
theorem kf_X1_56 : Cond.fieldLink RX1 56 "CallBoard$Handler" "number" "I" ∈ WW := inWW (tb_2 _ (List.mem_of_getElem? (i := 161) rfl)) rfl
theorem kf_X9_316 : Cond.fieldLink RX9 316 "CallBoard$Handler" "number" "I" ∈ WW := inWW (tb_2 _ (List.mem_of_getElem? (i := 162) rfl)) rfl
theorem kf_X2_22 : Cond.fieldLink RX2 22 "CallBoard$Handler" "action" "I" ∈ WW := inWW (tb_2 _ (List.mem_of_getElem? (i := 163) rfl)) rfl
theorem kf_X9_176 : Cond.fieldLink RX9 176 "CallBoard$Handler" "action" "I" ∈ WW := inWW (tb_2 _ (List.mem_of_getElem? (i := 164) rfl)) rfl
theorem kf_X2_25 : Cond.fieldLink RX2 25 "CallBoard$Handler" "value" "I" ∈ WW := inWW (tb_2 _ (List.mem_of_getElem? (i := 165) rfl)) rfl
theorem kf_X9_179 : Cond.fieldLink RX9 179 "CallBoard$Handler" "value" "I" ∈ WW := inWW (tb_2 _ (List.mem_of_getElem? (i := 166) rfl)) rfl
theorem kf_X2_28 : Cond.fieldLink RX2 28 "CallBoard$Handler" "around" "Z" ∈ WW := inWW (tb_2 _ (List.mem_of_getElem? (i := 167) rfl)) rfl
theorem kf_X0_82 : Cond.fieldLink RX0 82 "CallBoard$Handler" "around" "Z" ∈ WW := inWW (tb_2 _ (List.mem_of_getElem? (i := 168) rfl)) rfl
theorem kf_X1_57 : Cond.fieldLink RX1 57 "CallBoard$Handler" "around" "Z" ∈ WW := inWW (tb_2 _ (List.mem_of_getElem? (i := 169) rfl)) rfl
theorem kf_X9_182 : Cond.fieldLink RX9 182 "CallBoard$Handler" "around" "Z" ∈ WW := inWW (tb_2 _ (List.mem_of_getElem? (i := 170) rfl)) rfl
theorem kf_X2_37 : Cond.fieldLink RX2 37 "CallBoard$Handler" "codes" "[I" ∈ WW := inWW (tb_2 _ (List.mem_of_getElem? (i := 171) rfl)) rfl
theorem kf_X9_150 : Cond.fieldLink RX9 150 "CallBoard$Handler" "codes" "[I" ∈ WW := inWW (tb_2 _ (List.mem_of_getElem? (i := 172) rfl)) rfl
theorem kf_X2_41 : Cond.fieldLink RX2 41 "CallBoard$Handler" "lows" "[I" ∈ WW := inWW (tb_2 _ (List.mem_of_getElem? (i := 173) rfl)) rfl
theorem kf_X0_88 : Cond.fieldLink RX0 88 "CallBoard$Handler" "lows" "[I" ∈ WW := inWW (tb_2 _ (List.mem_of_getElem? (i := 174) rfl)) rfl
theorem kf_X9_153 : Cond.fieldLink RX9 153 "CallBoard$Handler" "lows" "[I" ∈ WW := inWW (tb_2 _ (List.mem_of_getElem? (i := 175) rfl)) rfl
theorem kf_X1_119 : Cond.fieldLink RX1 119 "CallBoard$Handler" "lows" "[I" ∈ WW := inWW (tb_2 _ (List.mem_of_getElem? (i := 176) rfl)) rfl
theorem kf_X2_44 : Cond.fieldLink RX2 44 "CallBoard$Handler" "highs" "[I" ∈ WW := inWW (tb_2 _ (List.mem_of_getElem? (i := 177) rfl)) rfl
theorem kf_X0_91 : Cond.fieldLink RX0 91 "CallBoard$Handler" "highs" "[I" ∈ WW := inWW (tb_2 _ (List.mem_of_getElem? (i := 178) rfl)) rfl
theorem kf_X9_156 : Cond.fieldLink RX9 156 "CallBoard$Handler" "highs" "[I" ∈ WW := inWW (tb_2 _ (List.mem_of_getElem? (i := 179) rfl)) rfl
theorem kf_X1_122 : Cond.fieldLink RX1 122 "CallBoard$Handler" "highs" "[I" ∈ WW := inWW (tb_2 _ (List.mem_of_getElem? (i := 180) rfl)) rfl
theorem kf_X2_9 : Cond.fieldLink RX2 9 "CallBoard$Handler" "state" "I" ∈ WW := inWW (tb_2 _ (List.mem_of_getElem? (i := 181) rfl)) rfl
theorem kf_X9_147 : Cond.fieldLink RX9 147 "CallBoard$Handler" "state" "I" ∈ WW := inWW (tb_2 _ (List.mem_of_getElem? (i := 182) rfl)) rfl
theorem km_L_62 : Cond.methodLink RL 62 yX9_place ∈ WW := inWW (tb_2 _ (List.mem_of_getElem? (i := 202) rfl)) rfl
theorem km_X9_136 : Cond.methodLink RX9 136 yX9_handlerAt ∈ WW := inWW (tb_2 _ (List.mem_of_getElem? (i := 206) rfl)) rfl
theorem km_X9_144 : Cond.methodLink RX9 144 yX1_hasPlace ∈ WW := inWW (tb_2 _ (List.mem_of_getElem? (i := 210) rfl)) rfl
theorem km_L_67 : Cond.methodLink RL 67 yX9_test ∈ WW := inWW (tb_2 _ (List.mem_of_getElem? (i := 214) rfl)) rfl
theorem km_L_72 : Cond.methodLink RL 72 yX9_lay ∈ WW := inWW (tb_2 _ (List.mem_of_getElem? (i := 218) rfl)) rfl
theorem km_X9_162 : Cond.methodLink RX9 162 yX1_hasLaidSame ∈ WW := inWW (tb_2 _ (List.mem_of_getElem? (i := 222) rfl)) rfl
theorem km_X1_60 : Cond.methodLink RX1 60 yX2_isSameAs ∈ WW := inWW (tb_2 _ (List.mem_of_getElem? (i := 226) rfl)) rfl
theorem km_X2_81 : Cond.methodLink RX2 81 yX2_isSameAt ∈ WW := inWW (tb_2 _ (List.mem_of_getElem? (i := 230) rfl)) rfl
theorem km_X9_166 : Cond.methodLink RX9 166 yX1_putLaid ∈ WW := inWW (tb_2 _ (List.mem_of_getElem? (i := 234) rfl)) rfl
theorem km_X1_64 : Cond.methodLink RX1 64 yX1_compareLaid ∈ WW := inWW (tb_2 _ (List.mem_of_getElem? (i := 238) rfl)) rfl
theorem km_X1_67 : Cond.methodLink RX1 67 yX2_isMoreSpecific ∈ WW := inWW (tb_3 _ (List.mem_of_getElem? (i := 2) rfl)) rfl
theorem km_X2_85 : Cond.methodLink RX2 85 yX2_isNarrowerAt ∈ WW := inWW (tb_3 _ (List.mem_of_getElem? (i := 6) rfl)) rfl
theorem km_X2_61 : Cond.methodLink RX2 61 yX8_isBelow ∈ WW := inWW (tb_3 _ (List.mem_of_getElem? (i := 10) rfl)) rfl
theorem km_X1_70 : Cond.methodLink RX1 70 yX1_putInOrder ∈ WW := inWW (tb_3 _ (List.mem_of_getElem? (i := 11) rfl)) rfl
theorem km_X1_76 : Cond.methodLink RX1 76 yX1_beatenByAny ∈ WW := inWW (tb_3 _ (List.mem_of_getElem? (i := 15) rfl)) rfl
theorem km_X1_73 : Cond.methodLink RX1 73 yX4_forget ∈ WW := inWW (tb_3 _ (List.mem_of_getElem? (i := 22) rfl)) rfl
theorem km_L_76 : Cond.methodLink RL 76 yX9_lift ∈ WW := inWW (tb_3 _ (List.mem_of_getElem? (i := 26) rfl)) rfl
theorem km_X9_169 : Cond.methodLink RX9 169 yX1_dropLaid ∈ WW := inWW (tb_3 _ (List.mem_of_getElem? (i := 30) rfl)) rfl
theorem km_L_80 : Cond.methodLink RL 80 yX9_freeze ∈ WW := inWW (tb_3 _ (List.mem_of_getElem? (i := 34) rfl)) rfl
theorem km_L_85 : Cond.methodLink RL 85 yX9_about ∈ WW := inWW (tb_3 _ (List.mem_of_getElem? (i := 38) rfl)) rfl
theorem km_X9_185 : Cond.methodLink RX9 185 yX9_elementOrZero ∈ WW := inWW (tb_3 _ (List.mem_of_getElem? (i := 42) rfl)) rfl
theorem km_L_89 : Cond.methodLink RL 89 yX9_dominates ∈ WW := inWW (tb_3 _ (List.mem_of_getElem? (i := 45) rfl)) rfl
theorem km_X9_189 : Cond.methodLink RX9 189 yX2_isMoreSpecific ∈ WW := inWW (tb_3 _ (List.mem_of_getElem? (i := 49) rfl)) rfl
theorem km_L_93 : Cond.methodLink RL 93 yX9_order ∈ WW := inWW (tb_3 _ (List.mem_of_getElem? (i := 50) rfl)) rfl
theorem km_X9_198 : Cond.methodLink RX9 198 yX1_numberAt ∈ WW := inWW (tb_3 _ (List.mem_of_getElem? (i := 54) rfl)) rfl
theorem km_X1_52 : Cond.methodLink RX1 52 yX1_laidAt ∈ WW := inWW (tb_3 _ (List.mem_of_getElem? (i := 58) rfl)) rfl
theorem km_L_97 : Cond.methodLink RL 97 yX9_arg ∈ WW := inWW (tb_3 _ (List.mem_of_getElem? (i := 62) rfl)) rfl
theorem km_L_101 : Cond.methodLink RL 101 yX9_call ∈ WW := inWW (tb_3 _ (List.mem_of_getElem? (i := 66) rfl)) rfl
theorem km_X9_202 : Cond.methodLink RX9 202 yX9_readToldRow ∈ WW := inWW (tb_3 _ (List.mem_of_getElem? (i := 70) rfl)) rfl
theorem km_X9_206 : Cond.methodLink RX9 206 yX3_begin ∈ WW := inWW (tb_3 _ (List.mem_of_getElem? (i := 74) rfl)) rfl
theorem km_X9_212 : Cond.methodLink RX9 212 yX9_carryOut ∈ WW := inWW (tb_3 _ (List.mem_of_getElem? (i := 78) rfl)) rfl
theorem km_X9_295 : Cond.methodLink RX9 295 yX9_isBarred ∈ WW := inWW (tb_3 _ (List.mem_of_getElem? (i := 82) rfl)) rfl
theorem km_X9_306 : Cond.methodLink RX9 306 yX6_weightTogether ∈ WW := inWW (tb_3 _ (List.mem_of_getElem? (i := 86) rfl)) rfl
theorem km_X9_310 : Cond.methodLink RX9 310 yX1_takersOf ∈ WW := inWW (tb_3 _ (List.mem_of_getElem? (i := 90) rfl)) rfl
theorem km_X1_89 : Cond.methodLink RX1 89 yX1_takersOfClass ∈ WW := inWW (tb_3 _ (List.mem_of_getElem? (i := 94) rfl)) rfl
theorem km_X1_102 : Cond.methodLink RX1 102 yX2_takesClass ∈ WW := inWW (tb_3 _ (List.mem_of_getElem? (i := 98) rfl)) rfl
theorem km_X1_95 : Cond.methodLink RX1 95 yX1_takersOfWeight ∈ WW := inWW (tb_3 _ (List.mem_of_getElem? (i := 102) rfl)) rfl
theorem km_X1_106 : Cond.methodLink RX1 106 yX2_takesWeight ∈ WW := inWW (tb_3 _ (List.mem_of_getElem? (i := 106) rfl)) rfl
theorem km_X9_313 : Cond.methodLink RX9 313 yX1_laidAt ∈ WW := inWW (tb_3 _ (List.mem_of_getElem? (i := 110) rfl)) rfl
theorem km_X9_317 : Cond.methodLink RX9 317 yX3_addStep ∈ WW := inWW (tb_3 _ (List.mem_of_getElem? (i := 111) rfl)) rfl
theorem km_X9_298 : Cond.methodLink RX9 298 yX1_lookForRow ∈ WW := inWW (tb_3 _ (List.mem_of_getElem? (i := 115) rfl)) rfl
theorem km_X1_109 : Cond.methodLink RX1 109 yX1_pieceOf ∈ WW := inWW (tb_3 _ (List.mem_of_getElem? (i := 119) rfl)) rfl
theorem kk_X1_117 : Cond.constantLong RX1 117 (2147483648) ∈ WW := inWW (tb_3 _ (List.mem_of_getElem? (i := 123) rfl)) rfl
theorem km_X1_125 : Cond.methodLink RX1 125 yJ9_min_f86c9 ∈ WW := inWW (tb_3 _ (List.mem_of_getElem? (i := 124) rfl)) rfl
theorem km_X1_113 : Cond.methodLink RX1 113 yX4_look ∈ WW := inWW (tb_3 _ (List.mem_of_getElem? (i := 127) rfl)) rfl
theorem km_X4_35 : Cond.methodLink RX4 35 yX4_find ∈ WW := inWW (tb_3 _ (List.mem_of_getElem? (i := 131) rfl)) rfl
theorem km_X4_39 : Cond.methodLink RX4 39 yX4_makeRoom ∈ WW := inWW (tb_3 _ (List.mem_of_getElem? (i := 135) rfl)) rfl
theorem km_X9_232 : Cond.methodLink RX9 232 yX1_plainTakersOf ∈ WW := inWW (tb_3 _ (List.mem_of_getElem? (i := 139) rfl)) rfl
theorem km_X1_98 : Cond.methodLink RX1 98 yX1_takersOf ∈ WW := inWW (tb_3 _ (List.mem_of_getElem? (i := 143) rfl)) rfl
theorem km_X9_302 : Cond.methodLink RX9 302 yX9_runChosen ∈ WW := inWW (tb_3 _ (List.mem_of_getElem? (i := 144) rfl)) rfl
theorem km_X9_239 : Cond.methodLink RX9 239 yX1_chosenOf ∈ WW := inWW (tb_3 _ (List.mem_of_getElem? (i := 148) rfl)) rfl
theorem km_X9_321 : Cond.methodLink RX9 321 yX9_act ∈ WW := inWW (tb_3 _ (List.mem_of_getElem? (i := 152) rfl)) rfl
theorem km_X9_325 : Cond.methodLink RX9 325 yX3_endWithValue ∈ WW := inWW (tb_3 _ (List.mem_of_getElem? (i := 156) rfl)) rfl
theorem km_X9_329 : Cond.methodLink RX9 329 yX3_endWithFailure ∈ WW := inWW (tb_3 _ (List.mem_of_getElem? (i := 160) rfl)) rfl
theorem km_X9_332 : Cond.methodLink RX9 332 yJ9_floorMod_7cf53 ∈ WW := inWW (tb_3 _ (List.mem_of_getElem? (i := 164) rfl)) rfl
theorem km_X9_337 : Cond.methodLink RX9 337 yX9_countUp ∈ WW := inWW (tb_3 _ (List.mem_of_getElem? (i := 167) rfl)) rfl
theorem km_X9_340 : Cond.methodLink RX9 340 yX9_bringSample ∈ WW := inWW (tb_3 _ (List.mem_of_getElem? (i := 171) rfl)) rfl
theorem km_X9_343 : Cond.methodLink RX9 343 yX9_calledWithin ∈ WW := inWW (tb_3 _ (List.mem_of_getElem? (i := 175) rfl)) rfl
theorem km_X9_346 : Cond.methodLink RX9 346 yX6_turnRound ∈ WW := inWW (tb_3 _ (List.mem_of_getElem? (i := 179) rfl)) rfl
theorem km_X9_292 : Cond.methodLink RX9 292 yX1_beatenBy ∈ WW := inWW (tb_3 _ (List.mem_of_getElem? (i := 183) rfl)) rfl
theorem km_L_105 : Cond.methodLink RL 105 yX9_value ∈ WW := inWW (tb_3 _ (List.mem_of_getElem? (i := 187) rfl)) rfl
theorem km_L_110 : Cond.methodLink RL 110 yX9_failure ∈ WW := inWW (tb_3 _ (List.mem_of_getElem? (i := 191) rfl)) rfl
theorem km_L_114 : Cond.methodLink RL 114 yX9_step ∈ WW := inWW (tb_3 _ (List.mem_of_getElem? (i := 195) rfl)) rfl
theorem km_L_118 : Cond.methodLink RL 118 yX9_counter ∈ WW := inWW (tb_3 _ (List.mem_of_getElem? (i := 199) rfl)) rfl
theorem km_L_122 : Cond.methodLink RL 122 yX9_applicable ∈ WW := inWW (tb_3 _ (List.mem_of_getElem? (i := 203) rfl)) rfl
theorem km_X9_236 : Cond.methodLink RX9 236 yX9_memberAt ∈ WW := inWW (tb_3 _ (List.mem_of_getElem? (i := 207) rfl)) rfl
theorem km_L_126 : Cond.methodLink RL 126 yX9_most ∈ WW := inWW (tb_3 _ (List.mem_of_getElem? (i := 208) rfl)) rfl
theorem km_L_130 : Cond.methodLink RL 130 yX9_explain ∈ WW := inWW (tb_3 _ (List.mem_of_getElem? (i := 212) rfl)) rfl
theorem km_X9_242 : Cond.methodLink RX9 242 yX2_firstRefusingPlace ∈ WW := inWW (tb_3 _ (List.mem_of_getElem? (i := 216) rfl)) rfl
theorem km_X2_72 : Cond.methodLink RX2 72 yX2_takesClass ∈ WW := inWW (tb_3 _ (List.mem_of_getElem? (i := 220) rfl)) rfl
theorem km_X2_78 : Cond.methodLink RX2 78 yX2_takesWeight ∈ WW := inWW (tb_3 _ (List.mem_of_getElem? (i := 221) rfl)) rfl
theorem km_X9_245 : Cond.methodLink RX9 245 yX9_explainAmongTakers ∈ WW := inWW (tb_3 _ (List.mem_of_getElem? (i := 222) rfl)) rfl
theorem km_X9_286 : Cond.methodLink RX9 286 yX1_indexOf ∈ WW := inWW (tb_3 _ (List.mem_of_getElem? (i := 226) rfl)) rfl
theorem km_X9_289 : Cond.methodLink RX9 289 yX1_beatersOf ∈ WW := inWW (tb_3 _ (List.mem_of_getElem? (i := 230) rfl)) rfl
theorem km_L_134 : Cond.methodLink RL 134 yX9_where ∈ WW := inWW (tb_3 _ (List.mem_of_getElem? (i := 234) rfl)) rfl
theorem km_L_138 : Cond.methodLink RL 138 yX9_count ∈ WW := inWW (tb_3 _ (List.mem_of_getElem? (i := 238) rfl)) rfl
theorem km_X9_249 : Cond.methodLink RX9 249 yX9_countOfAll ∈ WW := inWW (tb_4 _ (List.mem_of_getElem? (i := 2) rfl)) rfl
theorem km_L_142 : Cond.methodLink RL 142 yX9_covered ∈ WW := inWW (tb_4 _ (List.mem_of_getElem? (i := 6) rfl)) rfl
theorem km_X9_265 : Cond.methodLink RX9 265 yX5_findHole ∈ WW := inWW (tb_4 _ (List.mem_of_getElem? (i := 10) rfl)) rfl
theorem km_X5_38 : Cond.methodLink RX5 38 yX5_fillCells ∈ WW := inWW (tb_4 _ (List.mem_of_getElem? (i := 14) rfl)) rfl
theorem km_X5_34 : Cond.methodLink RX5 34 yX0_fill ∈ WW := inWW (tb_4 _ (List.mem_of_getElem? (i := 18) rfl)) rfl
theorem km_X0_34 : Cond.methodLink RX0 34 yX1_hasPlace ∈ WW := inWW (tb_4 _ (List.mem_of_getElem? (i := 22) rfl)) rfl
theorem km_X0_43 : Cond.methodLink RX0 43 yX0_addNew ∈ WW := inWW (tb_4 _ (List.mem_of_getElem? (i := 23) rfl)) rfl
theorem km_X0_47 : Cond.methodLink RX0 47 yX0_findStarts ∈ WW := inWW (tb_4 _ (List.mem_of_getElem? (i := 27) rfl)) rfl
theorem kk_X0_70 : Cond.constant RX0 70 (-2147483648) ∈ WW := inWW (tb_4 _ (List.mem_of_getElem? (i := 31) rfl)) rfl
theorem km_X0_71 : Cond.methodLink RX0 71 yX0_addStart ∈ WW := inWW (tb_4 _ (List.mem_of_getElem? (i := 32) rfl)) rfl
theorem km_X0_78 : Cond.methodLink RX0 78 yX1_laidAt ∈ WW := inWW (tb_4 _ (List.mem_of_getElem? (i := 36) rfl)) rfl
theorem kk_X0_94 : Cond.constant RX0 94 (2147483647) ∈ WW := inWW (tb_4 _ (List.mem_of_getElem? (i := 37) rfl)) rfl
theorem km_X0_95 : Cond.methodLink RX0 95 yX1_takersOfWeight ∈ WW := inWW (tb_4 _ (List.mem_of_getElem? (i := 38) rfl)) rfl
theorem km_X0_55 : Cond.methodLink RX0 55 yX8_isAbstract ∈ WW := inWW (tb_4 _ (List.mem_of_getElem? (i := 39) rfl)) rfl
theorem km_X0_60 : Cond.methodLink RX0 60 yX1_takersOfClass ∈ WW := inWW (tb_4 _ (List.mem_of_getElem? (i := 40) rfl)) rfl
theorem km_X0_64 : Cond.methodLink RX0 64 yX0_addClass ∈ WW := inWW (tb_4 _ (List.mem_of_getElem? (i := 41) rfl)) rfl
theorem km_X5_49 : Cond.methodLink RX5 49 yX1_chosenOf ∈ WW := inWW (tb_4 _ (List.mem_of_getElem? (i := 45) rfl)) rfl
theorem km_X5_55 : Cond.methodLink RX5 55 yX5_foundAt ∈ WW := inWW (tb_4 _ (List.mem_of_getElem? (i := 46) rfl)) rfl
theorem km_L_146 : Cond.methodLink RL 146 yX9_hole ∈ WW := inWW (tb_4 _ (List.mem_of_getElem? (i := 50) rfl)) rfl
theorem kk_X9_268 : Cond.constantLong RX9 268 (1099511627776) ∈ WW := inWW (tb_4 _ (List.mem_of_getElem? (i := 54) rfl)) rfl
theorem km_X9_270 : Cond.methodLink RX9 270 yX5_partOfTuple ∈ WW := inWW (tb_4 _ (List.mem_of_getElem? (i := 55) rfl)) rfl
theorem km_L_151 : Cond.methodLink RL 151 yX9_doubt ∈ WW := inWW (tb_4 _ (List.mem_of_getElem? (i := 59) rfl)) rfl
theorem km_X9_273 : Cond.methodLink RX9 273 yX5_findDoubt ∈ WW := inWW (tb_4 _ (List.mem_of_getElem? (i := 63) rfl)) rfl
theorem km_X5_62 : Cond.methodLink RX5 62 yX5_haveDoubt ∈ WW := inWW (tb_4 _ (List.mem_of_getElem? (i := 67) rfl)) rfl
theorem km_X5_69 : Cond.methodLink RX5 69 yX1_beatenBy ∈ WW := inWW (tb_4 _ (List.mem_of_getElem? (i := 71) rfl)) rfl
theorem km_X5_72 : Cond.methodLink RX5 72 yX1_beatersOf ∈ WW := inWW (tb_4 _ (List.mem_of_getElem? (i := 72) rfl)) rfl
theorem kl_L_10 : Cond.classLink RL 10 RX10 ∈ WW := inWW (tb_4 _ (List.mem_of_getElem? (i := 73) rfl)) rfl
theorem km_L_12 : Cond.methodLink RL 12 yX10_init ∈ WW := inWW (tb_4 _ (List.mem_of_getElem? (i := 75) rfl)) rfl
theorem km_X10_1 : Cond.methodLink RX10 1 objectInit ∈ WW := inWW (tb_4 _ (List.mem_of_getElem? (i := 78) rfl)) rfl
theorem kf_X10_7 : Cond.fieldLink RX10 7 "CallBoardModel" "parents" "[I" ∈ WW := inWW (tb_4 _ (List.mem_of_getElem? (i := 79) rfl)) rfl
theorem kf_X10_13 : Cond.fieldLink RX10 13 "CallBoardModel" "direct" "[Z" ∈ WW := inWW (tb_4 _ (List.mem_of_getElem? (i := 80) rfl)) rfl
theorem kf_X10_17 : Cond.fieldLink RX10 17 "CallBoardModel" "under" "[Z" ∈ WW := inWW (tb_4 _ (List.mem_of_getElem? (i := 81) rfl)) rfl
theorem kf_X10_20 : Cond.fieldLink RX10 20 "CallBoardModel" "unmade" "[Z" ∈ WW := inWW (tb_4 _ (List.mem_of_getElem? (i := 82) rfl)) rfl
theorem kf_X10_110 : Cond.fieldLink RX10 110 "CallBoardModel" "closed" "Z" ∈ WW := inWW (tb_4 _ (List.mem_of_getElem? (i := 83) rfl)) rfl
theorem kf_X10_125 : Cond.fieldLink RX10 125 "CallBoardModel" "samples" "I" ∈ WW := inWW (tb_4 _ (List.mem_of_getElem? (i := 84) rfl)) rfl
theorem kf_X10_23 : Cond.fieldLink RX10 23 "CallBoardModel" "kinds" "[I" ∈ WW := inWW (tb_4 _ (List.mem_of_getElem? (i := 85) rfl)) rfl
theorem kf_X10_26 : Cond.fieldLink RX10 26 "CallBoardModel" "weights" "[I" ∈ WW := inWW (tb_4 _ (List.mem_of_getElem? (i := 86) rfl)) rfl
theorem kf_X10_128 : Cond.fieldLink RX10 128 "CallBoardModel" "functions" "I" ∈ WW := inWW (tb_4 _ (List.mem_of_getElem? (i := 87) rfl)) rfl
theorem kf_X10_29 : Cond.fieldLink RX10 29 "CallBoardModel" "places" "[I" ∈ WW := inWW (tb_4 _ (List.mem_of_getElem? (i := 88) rfl)) rfl
theorem kf_X10_32 : Cond.fieldLink RX10 32 "CallBoardModel" "frozen" "[Z" ∈ WW := inWW (tb_4 _ (List.mem_of_getElem? (i := 89) rfl)) rfl
theorem kf_X10_35 : Cond.fieldLink RX10 35 "CallBoardModel" "hits" "[I" ∈ WW := inWW (tb_4 _ (List.mem_of_getElem? (i := 90) rfl)) rfl
theorem kf_X10_38 : Cond.fieldLink RX10 38 "CallBoardModel" "rows" "[J" ∈ WW := inWW (tb_4 _ (List.mem_of_getElem? (i := 91) rfl)) rfl
theorem kf_X10_42 : Cond.fieldLink RX10 42 "CallBoardModel" "rowMany" "[I" ∈ WW := inWW (tb_4 _ (List.mem_of_getElem? (i := 92) rfl)) rfl
theorem kf_X10_131 : Cond.fieldLink RX10 131 "CallBoardModel" "handlers" "I" ∈ WW := inWW (tb_4 _ (List.mem_of_getElem? (i := 93) rfl)) rfl
theorem kf_X10_45 : Cond.fieldLink RX10 45 "CallBoardModel" "functionOf" "[I" ∈ WW := inWW (tb_4 _ (List.mem_of_getElem? (i := 94) rfl)) rfl
theorem kf_X10_48 : Cond.fieldLink RX10 48 "CallBoardModel" "actions" "[I" ∈ WW := inWW (tb_4 _ (List.mem_of_getElem? (i := 95) rfl)) rfl
theorem kf_X10_51 : Cond.fieldLink RX10 51 "CallBoardModel" "values" "[I" ∈ WW := inWW (tb_4 _ (List.mem_of_getElem? (i := 96) rfl)) rfl
theorem kf_X10_54 : Cond.fieldLink RX10 54 "CallBoardModel" "around" "[Z" ∈ WW := inWW (tb_4 _ (List.mem_of_getElem? (i := 97) rfl)) rfl
theorem kf_X10_57 : Cond.fieldLink RX10 57 "CallBoardModel" "states" "[I" ∈ WW := inWW (tb_4 _ (List.mem_of_getElem? (i := 98) rfl)) rfl
theorem kf_X10_60 : Cond.fieldLink RX10 60 "CallBoardModel" "codes" "[I" ∈ WW := inWW (tb_4 _ (List.mem_of_getElem? (i := 99) rfl)) rfl
theorem kf_X10_63 : Cond.fieldLink RX10 63 "CallBoardModel" "lows" "[I" ∈ WW := inWW (tb_4 _ (List.mem_of_getElem? (i := 100) rfl)) rfl
theorem kf_X10_66 : Cond.fieldLink RX10 66 "CallBoardModel" "highs" "[I" ∈ WW := inWW (tb_4 _ (List.mem_of_getElem? (i := 101) rfl)) rfl
theorem kf_X10_69 : Cond.fieldLink RX10 69 "CallBoardModel" "counters" "[I" ∈ WW := inWW (tb_4 _ (List.mem_of_getElem? (i := 102) rfl)) rfl
theorem kf_X10_72 : Cond.fieldLink RX10 72 "CallBoardModel" "told" "[I" ∈ WW := inWW (tb_4 _ (List.mem_of_getElem? (i := 103) rfl)) rfl
theorem kf_X10_75 : Cond.fieldLink RX10 75 "CallBoardModel" "outcome" "I" ∈ WW := inWW (tb_4 _ (List.mem_of_getElem? (i := 104) rfl)) rfl
theorem kf_X10_212 : Cond.fieldLink RX10 212 "CallBoardModel" "result" "J" ∈ WW := inWW (tb_4 _ (List.mem_of_getElem? (i := 105) rfl)) rfl
theorem kf_X10_209 : Cond.fieldLink RX10 209 "CallBoardModel" "fault" "I" ∈ WW := inWW (tb_4 _ (List.mem_of_getElem? (i := 106) rfl)) rfl
theorem kf_X10_79 : Cond.fieldLink RX10 79 "CallBoardModel" "steps" "[I" ∈ WW := inWW (tb_4 _ (List.mem_of_getElem? (i := 107) rfl)) rfl
theorem kf_X10_180 : Cond.fieldLink RX10 180 "CallBoardModel" "stepMany" "I" ∈ WW := inWW (tb_4 _ (List.mem_of_getElem? (i := 108) rfl)) rfl
theorem kf_X10_191 : Cond.fieldLink RX10 191 "CallBoardModel" "deepest" "I" ∈ WW := inWW (tb_4 _ (List.mem_of_getElem? (i := 109) rfl)) rfl
theorem kf_X10_82 : Cond.fieldLink RX10 82 "CallBoardModel" "rowKinds" "[I" ∈ WW := inWW (tb_4 _ (List.mem_of_getElem? (i := 110) rfl)) rfl
theorem kf_X10_85 : Cond.fieldLink RX10 85 "CallBoardModel" "rowWeights" "[J" ∈ WW := inWW (tb_4 _ (List.mem_of_getElem? (i := 111) rfl)) rfl
theorem kf_X10_88 : Cond.fieldLink RX10 88 "CallBoardModel" "foundPlace" "I" ∈ WW := inWW (tb_4 _ (List.mem_of_getElem? (i := 112) rfl)) rfl
theorem kf_X10_91 : Cond.fieldLink RX10 91 "CallBoardModel" "gone" "[Z" ∈ WW := inWW (tb_4 _ (List.mem_of_getElem? (i := 113) rfl)) rfl
theorem kf_X10_94 : Cond.fieldLink RX10 94 "CallBoardModel" "edges" "[J" ∈ WW := inWW (tb_4 _ (List.mem_of_getElem? (i := 114) rfl)) rfl
theorem kf_X10_97 : Cond.fieldLink RX10 97 "CallBoardModel" "edgeMany" "[I" ∈ WW := inWW (tb_4 _ (List.mem_of_getElem? (i := 115) rfl)) rfl
theorem kf_X10_100 : Cond.fieldLink RX10 100 "CallBoardModel" "edgeAt" "[I" ∈ WW := inWW (tb_4 _ (List.mem_of_getElem? (i := 116) rfl)) rfl
theorem kf_X10_103 : Cond.fieldLink RX10 103 "CallBoardModel" "tuple" "[J" ∈ WW := inWW (tb_4 _ (List.mem_of_getElem? (i := 117) rfl)) rfl
theorem ka_boolean : Cond.arrayClass .boolean ∈ WW := inWW (tb_4 _ (List.mem_of_getElem? (i := 197) rfl)) rfl
theorem km_L_17 : Cond.methodLink RL 17 yX10_parent ∈ WW := inWW (tb_4 _ (List.mem_of_getElem? (i := 198) rfl)) rfl
theorem km_X10_106 : Cond.methodLink RX10 106 yX10_isClass ∈ WW := inWW (tb_4 _ (List.mem_of_getElem? (i := 202) rfl)) rfl
theorem km_L_21 : Cond.methodLink RL 21 yX10_trait ∈ WW := inWW (tb_4 _ (List.mem_of_getElem? (i := 205) rfl)) rfl
theorem km_X10_114 : Cond.methodLink RX10 114 yX10_isTrait ∈ WW := inWW (tb_4 _ (List.mem_of_getElem? (i := 209) rfl)) rfl
theorem km_X10_117 : Cond.methodLink RX10 117 yX10_add ∈ WW := inWW (tb_4 _ (List.mem_of_getElem? (i := 212) rfl)) rfl
theorem km_L_25 : Cond.methodLink RL 25 yX10_has ∈ WW := inWW (tb_4 _ (List.mem_of_getElem? (i := 216) rfl)) rfl
theorem km_L_30 : Cond.methodLink RL 30 yX10_flag ∈ WW := inWW (tb_4 _ (List.mem_of_getElem? (i := 220) rfl)) rfl
theorem km_L_35 : Cond.methodLink RL 35 yX10_close ∈ WW := inWW (tb_4 _ (List.mem_of_getElem? (i := 224) rfl)) rfl
theorem km_L_40 : Cond.methodLink RL 40 yX10_below ∈ WW := inWW (tb_4 _ (List.mem_of_getElem? (i := 228) rfl)) rfl
theorem km_X10_121 : Cond.methodLink RX10 121 yX10_isBelow ∈ WW := inWW (tb_4 _ (List.mem_of_getElem? (i := 232) rfl)) rfl
theorem km_L_44 : Cond.methodLink RL 44 yX10_sample ∈ WW := inWW (tb_4 _ (List.mem_of_getElem? (i := 236) rfl)) rfl
theorem km_L_48 : Cond.methodLink RL 48 yX10_of ∈ WW := inWW (tb_5 _ (List.mem_of_getElem? (i := 0) rfl)) rfl
theorem km_L_52 : Cond.methodLink RL 52 yX10_samples ∈ WW := inWW (tb_5 _ (List.mem_of_getElem? (i := 4) rfl)) rfl
theorem km_L_56 : Cond.methodLink RL 56 yX10_function ∈ WW := inWW (tb_5 _ (List.mem_of_getElem? (i := 8) rfl)) rfl
theorem km_L_61 : Cond.methodLink RL 61 yX10_handler ∈ WW := inWW (tb_5 _ (List.mem_of_getElem? (i := 12) rfl)) rfl
theorem km_X10_134 : Cond.methodLink RX10 134 yX10_isFunction ∈ WW := inWW (tb_5 _ (List.mem_of_getElem? (i := 16) rfl)) rfl
theorem kk_X10_137 : Cond.constant RX10 137 (-2147483648) ∈ WW := inWW (tb_5 _ (List.mem_of_getElem? (i := 20) rfl)) rfl
theorem kk_X10_138 : Cond.constant RX10 138 (2147483647) ∈ WW := inWW (tb_5 _ (List.mem_of_getElem? (i := 21) rfl)) rfl
theorem km_L_66 : Cond.methodLink RL 66 yX10_place ∈ WW := inWW (tb_5 _ (List.mem_of_getElem? (i := 22) rfl)) rfl
theorem km_X10_142 : Cond.methodLink RX10 142 yX10_hasPlace ∈ WW := inWW (tb_5 _ (List.mem_of_getElem? (i := 26) rfl)) rfl
theorem km_X10_139 : Cond.methodLink RX10 139 yX10_isHandler ∈ WW := inWW (tb_5 _ (List.mem_of_getElem? (i := 30) rfl)) rfl
theorem km_L_71 : Cond.methodLink RL 71 yX10_test ∈ WW := inWW (tb_5 _ (List.mem_of_getElem? (i := 34) rfl)) rfl
theorem km_L_75 : Cond.methodLink RL 75 yX10_lay ∈ WW := inWW (tb_5 _ (List.mem_of_getElem? (i := 38) rfl)) rfl
theorem km_X10_145 : Cond.methodLink RX10 145 yX10_isLaid ∈ WW := inWW (tb_5 _ (List.mem_of_getElem? (i := 42) rfl)) rfl
theorem km_X10_148 : Cond.methodLink RX10 148 yX10_areSame ∈ WW := inWW (tb_5 _ (List.mem_of_getElem? (i := 46) rfl)) rfl
theorem km_X10_155 : Cond.methodLink RX10 155 yX10_laid ∈ WW := inWW (tb_5 _ (List.mem_of_getElem? (i := 50) rfl)) rfl
theorem km_L_79 : Cond.methodLink RL 79 yX10_lift ∈ WW := inWW (tb_5 _ (List.mem_of_getElem? (i := 54) rfl)) rfl
theorem km_L_84 : Cond.methodLink RL 84 yX10_freeze ∈ WW := inWW (tb_5 _ (List.mem_of_getElem? (i := 58) rfl)) rfl
theorem km_L_88 : Cond.methodLink RL 88 yX10_about ∈ WW := inWW (tb_5 _ (List.mem_of_getElem? (i := 62) rfl)) rfl
theorem km_L_92 : Cond.methodLink RL 92 yX10_dominates ∈ WW := inWW (tb_5 _ (List.mem_of_getElem? (i := 66) rfl)) rfl
theorem km_X10_159 : Cond.methodLink RX10 159 yX10_isMore ∈ WW := inWW (tb_5 _ (List.mem_of_getElem? (i := 70) rfl)) rfl
theorem km_X10_152 : Cond.methodLink RX10 152 yX10_isNarrower ∈ WW := inWW (tb_5 _ (List.mem_of_getElem? (i := 74) rfl)) rfl
theorem km_L_96 : Cond.methodLink RL 96 yX10_order ∈ WW := inWW (tb_5 _ (List.mem_of_getElem? (i := 78) rfl)) rfl
theorem km_X10_162 : Cond.methodLink RX10 162 yX10_inOrder ∈ WW := inWW (tb_5 _ (List.mem_of_getElem? (i := 82) rfl)) rfl
theorem km_L_100 : Cond.methodLink RL 100 yX10_arg ∈ WW := inWW (tb_5 _ (List.mem_of_getElem? (i := 86) rfl)) rfl
theorem km_L_104 : Cond.methodLink RL 104 yX10_call ∈ WW := inWW (tb_5 _ (List.mem_of_getElem? (i := 90) rfl)) rfl
theorem km_X10_238 : Cond.methodLink RX10 238 yX10_tellRow ∈ WW := inWW (tb_5 _ (List.mem_of_getElem? (i := 94) rfl)) rfl
theorem km_X10_225 : Cond.methodLink RX10 225 yX10_begin ∈ WW := inWW (tb_5 _ (List.mem_of_getElem? (i := 98) rfl)) rfl
theorem km_X10_194 : Cond.methodLink RX10 194 yX10_isBarred ∈ WW := inWW (tb_5 _ (List.mem_of_getElem? (i := 102) rfl)) rfl
theorem km_X10_168 : Cond.methodLink RX10 168 yX10_takes ∈ WW := inWW (tb_5 _ (List.mem_of_getElem? (i := 106) rfl)) rfl
theorem km_X10_165 : Cond.methodLink RX10 165 yX10_takesAt ∈ WW := inWW (tb_5 _ (List.mem_of_getElem? (i := 110) rfl)) rfl
theorem km_X10_183 : Cond.methodLink RX10 183 yX10_note ∈ WW := inWW (tb_5 _ (List.mem_of_getElem? (i := 114) rfl)) rfl
theorem km_X10_187 : Cond.methodLink RX10 187 yX10_weight ∈ WW := inWW (tb_5 _ (List.mem_of_getElem? (i := 118) rfl)) rfl
theorem km_X10_197 : Cond.methodLink RX10 197 yX10_remember ∈ WW := inWW (tb_5 _ (List.mem_of_getElem? (i := 122) rfl)) rfl
theorem km_X10_176 : Cond.methodLink RX10 176 yX10_piece ∈ WW := inWW (tb_5 _ (List.mem_of_getElem? (i := 126) rfl)) rfl
theorem kk_X10_174 : Cond.constantLong RX10 174 (2147483648) ∈ WW := inWW (tb_5 _ (List.mem_of_getElem? (i := 130) rfl)) rfl
theorem km_X10_200 : Cond.methodLink RX10 200 yX10_choose ∈ WW := inWW (tb_5 _ (List.mem_of_getElem? (i := 131) rfl)) rfl
theorem km_X10_203 : Cond.methodLink RX10 203 yX10_offered ∈ WW := inWW (tb_5 _ (List.mem_of_getElem? (i := 135) rfl)) rfl
theorem km_X10_171 : Cond.methodLink RX10 171 yX10_isOffered ∈ WW := inWW (tb_5 _ (List.mem_of_getElem? (i := 139) rfl)) rfl
theorem km_X10_206 : Cond.methodLink RX10 206 yX10_chosen ∈ WW := inWW (tb_5 _ (List.mem_of_getElem? (i := 143) rfl)) rfl
theorem km_X10_241 : Cond.methodLink RX10 241 yX10_run ∈ WW := inWW (tb_5 _ (List.mem_of_getElem? (i := 147) rfl)) rfl
theorem km_X10_228 : Cond.methodLink RX10 228 yX10_end ∈ WW := inWW (tb_5 _ (List.mem_of_getElem? (i := 151) rfl)) rfl
theorem km_X10_219 : Cond.methodLink RX10 219 yX10_fail ∈ WW := inWW (tb_5 _ (List.mem_of_getElem? (i := 155) rfl)) rfl
theorem km_X10_216 : Cond.methodLink RX10 216 yX10_rest ∈ WW := inWW (tb_5 _ (List.mem_of_getElem? (i := 159) rfl)) rfl
theorem km_X10_232 : Cond.methodLink RX10 232 yX10_grow ∈ WW := inWW (tb_5 _ (List.mem_of_getElem? (i := 162) rfl)) rfl
theorem km_X10_235 : Cond.methodLink RX10 235 yX10_callOn ∈ WW := inWW (tb_5 _ (List.mem_of_getElem? (i := 166) rfl)) rfl
theorem km_X10_222 : Cond.methodLink RX10 222 yX10_turn ∈ WW := inWW (tb_5 _ (List.mem_of_getElem? (i := 170) rfl)) rfl
theorem km_L_109 : Cond.methodLink RL 109 yX10_value ∈ WW := inWW (tb_5 _ (List.mem_of_getElem? (i := 174) rfl)) rfl
theorem km_L_113 : Cond.methodLink RL 113 yX10_failure ∈ WW := inWW (tb_5 _ (List.mem_of_getElem? (i := 178) rfl)) rfl
theorem km_L_117 : Cond.methodLink RL 117 yX10_step ∈ WW := inWW (tb_5 _ (List.mem_of_getElem? (i := 182) rfl)) rfl
theorem km_L_121 : Cond.methodLink RL 121 yX10_counter ∈ WW := inWW (tb_5 _ (List.mem_of_getElem? (i := 186) rfl)) rfl
theorem km_L_125 : Cond.methodLink RL 125 yX10_applicable ∈ WW := inWW (tb_5 _ (List.mem_of_getElem? (i := 190) rfl)) rfl
theorem km_L_129 : Cond.methodLink RL 129 yX10_most ∈ WW := inWW (tb_5 _ (List.mem_of_getElem? (i := 194) rfl)) rfl
theorem km_L_133 : Cond.methodLink RL 133 yX10_explain ∈ WW := inWW (tb_5 _ (List.mem_of_getElem? (i := 198) rfl)) rfl
theorem km_X10_244 : Cond.methodLink RX10 244 yX10_moreThan ∈ WW := inWW (tb_5 _ (List.mem_of_getElem? (i := 202) rfl)) rfl
theorem km_L_137 : Cond.methodLink RL 137 yX10_where ∈ WW := inWW (tb_5 _ (List.mem_of_getElem? (i := 206) rfl)) rfl
theorem km_L_141 : Cond.methodLink RL 141 yX10_count ∈ WW := inWW (tb_5 _ (List.mem_of_getElem? (i := 210) rfl)) rfl
theorem km_X10_247 : Cond.methodLink RX10 247 yX10_countAll ∈ WW := inWW (tb_5 _ (List.mem_of_getElem? (i := 214) rfl)) rfl
theorem km_L_145 : Cond.methodLink RL 145 yX10_covered ∈ WW := inWW (tb_5 _ (List.mem_of_getElem? (i := 218) rfl)) rfl
theorem km_X10_271 : Cond.methodLink RX10 271 yX10_findHole ∈ WW := inWW (tb_5 _ (List.mem_of_getElem? (i := 222) rfl)) rfl
theorem km_X10_262 : Cond.methodLink RX10 262 yX10_firstTuple ∈ WW := inWW (tb_5 _ (List.mem_of_getElem? (i := 226) rfl)) rfl
theorem km_X10_252 : Cond.methodLink RX10 252 yX10_nextClass ∈ WW := inWW (tb_5 _ (List.mem_of_getElem? (i := 230) rfl)) rfl
theorem kk_X10_250 : Cond.constantLong RX10 250 (-2147483648) ∈ WW := inWW (tb_5 _ (List.mem_of_getElem? (i := 234) rfl)) rfl
theorem km_X10_255 : Cond.methodLink RX10 255 yX10_findEdges ∈ WW := inWW (tb_5 _ (List.mem_of_getElem? (i := 235) rfl)) rfl
theorem km_X10_265 : Cond.methodLink RX10 265 yX10_nextTuple ∈ WW := inWW (tb_5 _ (List.mem_of_getElem? (i := 239) rfl)) rfl
theorem km_X10_259 : Cond.methodLink RX10 259 yX10_nextAt ∈ WW := inWW (tb_6 _ (List.mem_of_getElem? (i := 3) rfl)) rfl
theorem km_X10_268 : Cond.methodLink RX10 268 yX10_keepTuple ∈ WW := inWW (tb_6 _ (List.mem_of_getElem? (i := 7) rfl)) rfl
theorem km_L_150 : Cond.methodLink RL 150 yX10_hole ∈ WW := inWW (tb_6 _ (List.mem_of_getElem? (i := 11) rfl)) rfl
theorem kk_X10_274 : Cond.constantLong RX10 274 (1099511627776) ∈ WW := inWW (tb_6 _ (List.mem_of_getElem? (i := 15) rfl)) rfl
theorem km_L_155 : Cond.methodLink RL 155 yX10_doubt ∈ WW := inWW (tb_6 _ (List.mem_of_getElem? (i := 16) rfl)) rfl
theorem km_X10_279 : Cond.methodLink RX10 279 yX10_findDoubt ∈ WW := inWW (tb_6 _ (List.mem_of_getElem? (i := 20) rfl)) rfl
theorem km_X10_276 : Cond.methodLink RX10 276 yX10_areInDoubt ∈ WW := inWW (tb_6 _ (List.mem_of_getElem? (i := 24) rfl)) rfl
theorem kc_MIN : Cond.code Lib.MathLoose.min_long.x Lib.MathLoose.min_long.code 4 (some .long) ∈ WW := inWW (tb_3 _ (List.mem_of_getElem? (i := 126) rfl)) rfl
theorem kt_MIN : Cond.static Lib.MathLoose.min_long.x ∈ WW := inWW (tb_3 _ (List.mem_of_getElem? (i := 125) rfl)) rfl
theorem kz_MIN : Cond.initialized "java/lang/Math" ∈ WW := inWW (tb_1 _ (List.mem_of_getElem? (i := 13) rfl)) rfl
theorem ki_OBJ : Cond.instanceMethod objectInit ∈ WW := inWW (tb_1 _ (List.mem_of_getElem? (i := 20) rfl)) rfl
theorem kc_OBJ : Cond.code objectInit ⟨#[0xb1]⟩ 1 none ∈ WW := inWW (tb_1 _ (List.mem_of_getElem? (i := 21) rfl)) rfl
theorem ku_X0_0 : u_lay RX0 TX0 0 ∈ WW := inWW (tb_1 _ (List.mem_of_getElem? (i := 151) rfl)) rfl
theorem ku_X0_1 : u_lay RX0 TX0 1 ∈ WW := inWW (tb_1 _ (List.mem_of_getElem? (i := 153) rfl)) rfl
theorem ku_X0_2 : u_lay RX0 TX0 2 ∈ WW := inWW (tb_1 _ (List.mem_of_getElem? (i := 155) rfl)) rfl
theorem ku_X0_3 : u_lay RX0 TX0 3 ∈ WW := inWW (tb_1 _ (List.mem_of_getElem? (i := 157) rfl)) rfl
theorem ku_X0_4 : u_lay RX0 TX0 4 ∈ WW := inWW (tb_1 _ (List.mem_of_getElem? (i := 159) rfl)) rfl
theorem ku_X0_5 : u_lay RX0 TX0 5 ∈ WW := inWW (tb_1 _ (List.mem_of_getElem? (i := 161) rfl)) rfl
theorem ku_X0_6 : u_lay RX0 TX0 6 ∈ WW := inWW (tb_1 _ (List.mem_of_getElem? (i := 163) rfl)) rfl
theorem i_X0 : ∀ w ∈ wsX00, w ∈ WW := by
  intro w hw
  obtain ⟨k, hk, rfl⟩ := List.mem_map.mp hw
  have hk := List.mem_range.mp hk
  match k, hk with
  | 0, _ => exact ku_X0_0
  | 1, _ => exact ku_X0_1
  | 2, _ => exact ku_X0_2
  | 3, _ => exact ku_X0_3
  | 4, _ => exact ku_X0_4
  | 5, _ => exact ku_X0_5
  | 6, _ => exact ku_X0_6
  | k + 7, hk => exact absurd hk (by omega)
theorem ku_X1_0 : u_lay RX1 TX1 0 ∈ WW := inWW (tb_2 _ (List.mem_of_getElem? (i := 121) rfl)) rfl
theorem ku_X1_1 : u_lay RX1 TX1 1 ∈ WW := inWW (tb_2 _ (List.mem_of_getElem? (i := 123) rfl)) rfl
theorem ku_X1_2 : u_lay RX1 TX1 2 ∈ WW := inWW (tb_2 _ (List.mem_of_getElem? (i := 125) rfl)) rfl
theorem ku_X1_3 : u_lay RX1 TX1 3 ∈ WW := inWW (tb_2 _ (List.mem_of_getElem? (i := 127) rfl)) rfl
theorem ku_X1_4 : u_lay RX1 TX1 4 ∈ WW := inWW (tb_2 _ (List.mem_of_getElem? (i := 129) rfl)) rfl
theorem ku_X1_5 : u_lay RX1 TX1 5 ∈ WW := inWW (tb_2 _ (List.mem_of_getElem? (i := 131) rfl)) rfl
theorem ku_X1_6 : u_lay RX1 TX1 6 ∈ WW := inWW (tb_2 _ (List.mem_of_getElem? (i := 133) rfl)) rfl
theorem ku_X1_7 : u_lay RX1 TX1 7 ∈ WW := inWW (tb_2 _ (List.mem_of_getElem? (i := 135) rfl)) rfl
theorem ku_X1_8 : u_lay RX1 TX1 8 ∈ WW := inWW (tb_2 _ (List.mem_of_getElem? (i := 137) rfl)) rfl
theorem ku_X1_9 : u_lay RX1 TX1 9 ∈ WW := inWW (tb_2 _ (List.mem_of_getElem? (i := 139) rfl)) rfl
theorem i_X1 : ∀ w ∈ wsX10, w ∈ WW := by
  intro w hw
  obtain ⟨k, hk, rfl⟩ := List.mem_map.mp hw
  have hk := List.mem_range.mp hk
  match k, hk with
  | 0, _ => exact ku_X1_0
  | 1, _ => exact ku_X1_1
  | 2, _ => exact ku_X1_2
  | 3, _ => exact ku_X1_3
  | 4, _ => exact ku_X1_4
  | 5, _ => exact ku_X1_5
  | 6, _ => exact ku_X1_6
  | 7, _ => exact ku_X1_7
  | 8, _ => exact ku_X1_8
  | 9, _ => exact ku_X1_9
  | k + 10, hk => exact absurd hk (by omega)
theorem ku_X2_0 : u_lay RX2 TX2 0 ∈ WW := inWW (tb_2 _ (List.mem_of_getElem? (i := 183) rfl)) rfl
theorem ku_X2_1 : u_lay RX2 TX2 1 ∈ WW := inWW (tb_2 _ (List.mem_of_getElem? (i := 185) rfl)) rfl
theorem ku_X2_2 : u_lay RX2 TX2 2 ∈ WW := inWW (tb_2 _ (List.mem_of_getElem? (i := 187) rfl)) rfl
theorem ku_X2_3 : u_lay RX2 TX2 3 ∈ WW := inWW (tb_2 _ (List.mem_of_getElem? (i := 189) rfl)) rfl
theorem ku_X2_4 : u_lay RX2 TX2 4 ∈ WW := inWW (tb_2 _ (List.mem_of_getElem? (i := 191) rfl)) rfl
theorem ku_X2_5 : u_lay RX2 TX2 5 ∈ WW := inWW (tb_2 _ (List.mem_of_getElem? (i := 193) rfl)) rfl
theorem ku_X2_6 : u_lay RX2 TX2 6 ∈ WW := inWW (tb_2 _ (List.mem_of_getElem? (i := 195) rfl)) rfl
theorem ku_X2_7 : u_lay RX2 TX2 7 ∈ WW := inWW (tb_2 _ (List.mem_of_getElem? (i := 197) rfl)) rfl
theorem ku_X2_8 : u_lay RX2 TX2 8 ∈ WW := inWW (tb_2 _ (List.mem_of_getElem? (i := 199) rfl)) rfl
theorem i_X2 : ∀ w ∈ wsX20, w ∈ WW := by
  intro w hw
  obtain ⟨k, hk, rfl⟩ := List.mem_map.mp hw
  have hk := List.mem_range.mp hk
  match k, hk with
  | 0, _ => exact ku_X2_0
  | 1, _ => exact ku_X2_1
  | 2, _ => exact ku_X2_2
  | 3, _ => exact ku_X2_3
  | 4, _ => exact ku_X2_4
  | 5, _ => exact ku_X2_5
  | 6, _ => exact ku_X2_6
  | 7, _ => exact ku_X2_7
  | 8, _ => exact ku_X2_8
  | k + 9, hk => exact absurd hk (by omega)
theorem ku_X3_0 : u_lay RX3 TX3 0 ∈ WW := inWW (tb_1 _ (List.mem_of_getElem? (i := 115) rfl)) rfl
theorem ku_X3_1 : u_lay RX3 TX3 1 ∈ WW := inWW (tb_1 _ (List.mem_of_getElem? (i := 117) rfl)) rfl
theorem ku_X3_2 : u_lay RX3 TX3 2 ∈ WW := inWW (tb_1 _ (List.mem_of_getElem? (i := 119) rfl)) rfl
theorem ku_X3_3 : u_lay RX3 TX3 3 ∈ WW := inWW (tb_1 _ (List.mem_of_getElem? (i := 121) rfl)) rfl
theorem ku_X3_4 : u_lay RX3 TX3 4 ∈ WW := inWW (tb_1 _ (List.mem_of_getElem? (i := 123) rfl)) rfl
theorem ku_X3_5 : u_lay RX3 TX3 5 ∈ WW := inWW (tb_1 _ (List.mem_of_getElem? (i := 125) rfl)) rfl
theorem i_X3 : ∀ w ∈ wsX30, w ∈ WW := by
  intro w hw
  obtain ⟨k, hk, rfl⟩ := List.mem_map.mp hw
  have hk := List.mem_range.mp hk
  match k, hk with
  | 0, _ => exact ku_X3_0
  | 1, _ => exact ku_X3_1
  | 2, _ => exact ku_X3_2
  | 3, _ => exact ku_X3_3
  | 4, _ => exact ku_X3_4
  | 5, _ => exact ku_X3_5
  | k + 6, hk => exact absurd hk (by omega)
theorem ku_X4_0 : u_lay RX4 TX4 0 ∈ WW := inWW (tb_2 _ (List.mem_of_getElem? (i := 81) rfl)) rfl
theorem ku_X4_1 : u_lay RX4 TX4 1 ∈ WW := inWW (tb_2 _ (List.mem_of_getElem? (i := 83) rfl)) rfl
theorem ku_X4_2 : u_lay RX4 TX4 2 ∈ WW := inWW (tb_2 _ (List.mem_of_getElem? (i := 85) rfl)) rfl
theorem ku_X4_3 : u_lay RX4 TX4 3 ∈ WW := inWW (tb_2 _ (List.mem_of_getElem? (i := 87) rfl)) rfl
theorem ku_X4_4 : u_lay RX4 TX4 4 ∈ WW := inWW (tb_2 _ (List.mem_of_getElem? (i := 89) rfl)) rfl
theorem ku_X4_5 : u_lay RX4 TX4 5 ∈ WW := inWW (tb_2 _ (List.mem_of_getElem? (i := 91) rfl)) rfl
theorem ku_X4_6 : u_lay RX4 TX4 6 ∈ WW := inWW (tb_2 _ (List.mem_of_getElem? (i := 93) rfl)) rfl
theorem i_X4 : ∀ w ∈ wsX40, w ∈ WW := by
  intro w hw
  obtain ⟨k, hk, rfl⟩ := List.mem_map.mp hw
  have hk := List.mem_range.mp hk
  match k, hk with
  | 0, _ => exact ku_X4_0
  | 1, _ => exact ku_X4_1
  | 2, _ => exact ku_X4_2
  | 3, _ => exact ku_X4_3
  | 4, _ => exact ku_X4_4
  | 5, _ => exact ku_X4_5
  | 6, _ => exact ku_X4_6
  | k + 7, hk => exact absurd hk (by omega)
theorem ku_X5_0 : u_lay RX5 TX5 0 ∈ WW := inWW (tb_1 _ (List.mem_of_getElem? (i := 174) rfl)) rfl
theorem ku_X5_1 : u_lay RX5 TX5 1 ∈ WW := inWW (tb_1 _ (List.mem_of_getElem? (i := 176) rfl)) rfl
theorem ku_X5_2 : u_lay RX5 TX5 2 ∈ WW := inWW (tb_1 _ (List.mem_of_getElem? (i := 178) rfl)) rfl
theorem ku_X5_3 : u_lay RX5 TX5 3 ∈ WW := inWW (tb_1 _ (List.mem_of_getElem? (i := 180) rfl)) rfl
theorem ku_X5_4 : u_lay RX5 TX5 4 ∈ WW := inWW (tb_1 _ (List.mem_of_getElem? (i := 182) rfl)) rfl
theorem ku_X5_5 : u_lay RX5 TX5 5 ∈ WW := inWW (tb_1 _ (List.mem_of_getElem? (i := 184) rfl)) rfl
theorem i_X5 : ∀ w ∈ wsX50, w ∈ WW := by
  intro w hw
  obtain ⟨k, hk, rfl⟩ := List.mem_map.mp hw
  have hk := List.mem_range.mp hk
  match k, hk with
  | 0, _ => exact ku_X5_0
  | 1, _ => exact ku_X5_1
  | 2, _ => exact ku_X5_2
  | 3, _ => exact ku_X5_3
  | 4, _ => exact ku_X5_4
  | 5, _ => exact ku_X5_5
  | k + 6, hk => exact absurd hk (by omega)
theorem ku_X6_0 : u_lay RX6 TX6 0 ∈ WW := inWW (tb_1 _ (List.mem_of_getElem? (i := 90) rfl)) rfl
theorem ku_X6_1 : u_lay RX6 TX6 1 ∈ WW := inWW (tb_1 _ (List.mem_of_getElem? (i := 92) rfl)) rfl
theorem ku_X6_2 : u_lay RX6 TX6 2 ∈ WW := inWW (tb_1 _ (List.mem_of_getElem? (i := 94) rfl)) rfl
theorem i_X6 : ∀ w ∈ wsX60, w ∈ WW := by
  intro w hw
  obtain ⟨k, hk, rfl⟩ := List.mem_map.mp hw
  have hk := List.mem_range.mp hk
  match k, hk with
  | 0, _ => exact ku_X6_0
  | 1, _ => exact ku_X6_1
  | 2, _ => exact ku_X6_2
  | k + 3, hk => exact absurd hk (by omega)
theorem ku_X7_0 : u_lay RX7 TX7 0 ∈ WW := inWW (tb_1 _ (List.mem_of_getElem? (i := 63) rfl)) rfl
theorem ku_X7_1 : u_lay RX7 TX7 1 ∈ WW := inWW (tb_1 _ (List.mem_of_getElem? (i := 65) rfl)) rfl
theorem ku_X7_2 : u_lay RX7 TX7 2 ∈ WW := inWW (tb_1 _ (List.mem_of_getElem? (i := 67) rfl)) rfl
theorem i_X7 : ∀ w ∈ wsX70, w ∈ WW := by
  intro w hw
  obtain ⟨k, hk, rfl⟩ := List.mem_map.mp hw
  have hk := List.mem_range.mp hk
  match k, hk with
  | 0, _ => exact ku_X7_0
  | 1, _ => exact ku_X7_1
  | 2, _ => exact ku_X7_2
  | k + 3, hk => exact absurd hk (by omega)
theorem ku_X8_0 : u_lay RX8 TX8 0 ∈ WW := inWW (tb_1 _ (List.mem_of_getElem? (i := 39) rfl)) rfl
theorem ku_X8_1 : u_lay RX8 TX8 1 ∈ WW := inWW (tb_1 _ (List.mem_of_getElem? (i := 41) rfl)) rfl
theorem ku_X8_2 : u_lay RX8 TX8 2 ∈ WW := inWW (tb_1 _ (List.mem_of_getElem? (i := 43) rfl)) rfl
theorem ku_X8_3 : u_lay RX8 TX8 3 ∈ WW := inWW (tb_1 _ (List.mem_of_getElem? (i := 45) rfl)) rfl
theorem ku_X8_4 : u_lay RX8 TX8 4 ∈ WW := inWW (tb_1 _ (List.mem_of_getElem? (i := 47) rfl)) rfl
theorem i_X8 : ∀ w ∈ wsX80, w ∈ WW := by
  intro w hw
  obtain ⟨k, hk, rfl⟩ := List.mem_map.mp hw
  have hk := List.mem_range.mp hk
  match k, hk with
  | 0, _ => exact ku_X8_0
  | 1, _ => exact ku_X8_1
  | 2, _ => exact ku_X8_2
  | 3, _ => exact ku_X8_3
  | 4, _ => exact ku_X8_4
  | k + 5, hk => exact absurd hk (by omega)
theorem ku_X9_0 : u_lay RX9 TX9 0 ∈ WW := inWW (tb_1 _ (List.mem_of_getElem? (i := 199) rfl)) rfl
theorem ku_X9_1 : u_lay RX9 TX9 1 ∈ WW := inWW (tb_1 _ (List.mem_of_getElem? (i := 201) rfl)) rfl
theorem ku_X9_2 : u_lay RX9 TX9 2 ∈ WW := inWW (tb_1 _ (List.mem_of_getElem? (i := 203) rfl)) rfl
theorem ku_X9_3 : u_lay RX9 TX9 3 ∈ WW := inWW (tb_1 _ (List.mem_of_getElem? (i := 205) rfl)) rfl
theorem ku_X9_4 : u_lay RX9 TX9 4 ∈ WW := inWW (tb_1 _ (List.mem_of_getElem? (i := 207) rfl)) rfl
theorem ku_X9_5 : u_lay RX9 TX9 5 ∈ WW := inWW (tb_1 _ (List.mem_of_getElem? (i := 209) rfl)) rfl
theorem ku_X9_6 : u_lay RX9 TX9 6 ∈ WW := inWW (tb_1 _ (List.mem_of_getElem? (i := 211) rfl)) rfl
theorem ku_X9_7 : u_lay RX9 TX9 7 ∈ WW := inWW (tb_1 _ (List.mem_of_getElem? (i := 213) rfl)) rfl
theorem ku_X9_8 : u_lay RX9 TX9 8 ∈ WW := inWW (tb_1 _ (List.mem_of_getElem? (i := 215) rfl)) rfl
theorem ku_X9_9 : u_lay RX9 TX9 9 ∈ WW := inWW (tb_1 _ (List.mem_of_getElem? (i := 217) rfl)) rfl
theorem ku_X9_10 : u_lay RX9 TX9 10 ∈ WW := inWW (tb_1 _ (List.mem_of_getElem? (i := 219) rfl)) rfl
theorem ku_X9_11 : u_lay RX9 TX9 11 ∈ WW := inWW (tb_1 _ (List.mem_of_getElem? (i := 221) rfl)) rfl
theorem i_X9 : ∀ w ∈ wsX90, w ∈ WW := by
  intro w hw
  obtain ⟨k, hk, rfl⟩ := List.mem_map.mp hw
  have hk := List.mem_range.mp hk
  match k, hk with
  | 0, _ => exact ku_X9_0
  | 1, _ => exact ku_X9_1
  | 2, _ => exact ku_X9_2
  | 3, _ => exact ku_X9_3
  | 4, _ => exact ku_X9_4
  | 5, _ => exact ku_X9_5
  | 6, _ => exact ku_X9_6
  | 7, _ => exact ku_X9_7
  | 8, _ => exact ku_X9_8
  | 9, _ => exact ku_X9_9
  | 10, _ => exact ku_X9_10
  | 11, _ => exact ku_X9_11
  | k + 12, hk => exact absurd hk (by omega)
theorem ku_X10_0 : u_lay RX10 TX10 0 ∈ WW := inWW (tb_4 _ (List.mem_of_getElem? (i := 118) rfl)) rfl
theorem ku_X10_1 : u_lay RX10 TX10 1 ∈ WW := inWW (tb_4 _ (List.mem_of_getElem? (i := 120) rfl)) rfl
theorem ku_X10_2 : u_lay RX10 TX10 2 ∈ WW := inWW (tb_4 _ (List.mem_of_getElem? (i := 122) rfl)) rfl
theorem ku_X10_3 : u_lay RX10 TX10 3 ∈ WW := inWW (tb_4 _ (List.mem_of_getElem? (i := 124) rfl)) rfl
theorem ku_X10_4 : u_lay RX10 TX10 4 ∈ WW := inWW (tb_4 _ (List.mem_of_getElem? (i := 126) rfl)) rfl
theorem ku_X10_5 : u_lay RX10 TX10 5 ∈ WW := inWW (tb_4 _ (List.mem_of_getElem? (i := 128) rfl)) rfl
theorem ku_X10_6 : u_lay RX10 TX10 6 ∈ WW := inWW (tb_4 _ (List.mem_of_getElem? (i := 130) rfl)) rfl
theorem ku_X10_7 : u_lay RX10 TX10 7 ∈ WW := inWW (tb_4 _ (List.mem_of_getElem? (i := 132) rfl)) rfl
theorem ku_X10_8 : u_lay RX10 TX10 8 ∈ WW := inWW (tb_4 _ (List.mem_of_getElem? (i := 134) rfl)) rfl
theorem ku_X10_9 : u_lay RX10 TX10 9 ∈ WW := inWW (tb_4 _ (List.mem_of_getElem? (i := 136) rfl)) rfl
theorem ku_X10_10 : u_lay RX10 TX10 10 ∈ WW := inWW (tb_4 _ (List.mem_of_getElem? (i := 138) rfl)) rfl
theorem ku_X10_11 : u_lay RX10 TX10 11 ∈ WW := inWW (tb_4 _ (List.mem_of_getElem? (i := 140) rfl)) rfl
theorem ku_X10_12 : u_lay RX10 TX10 12 ∈ WW := inWW (tb_4 _ (List.mem_of_getElem? (i := 142) rfl)) rfl
theorem ku_X10_13 : u_lay RX10 TX10 13 ∈ WW := inWW (tb_4 _ (List.mem_of_getElem? (i := 144) rfl)) rfl
theorem ku_X10_14 : u_lay RX10 TX10 14 ∈ WW := inWW (tb_4 _ (List.mem_of_getElem? (i := 146) rfl)) rfl
theorem ku_X10_15 : u_lay RX10 TX10 15 ∈ WW := inWW (tb_4 _ (List.mem_of_getElem? (i := 148) rfl)) rfl
theorem ku_X10_16 : u_lay RX10 TX10 16 ∈ WW := inWW (tb_4 _ (List.mem_of_getElem? (i := 150) rfl)) rfl
theorem ku_X10_17 : u_lay RX10 TX10 17 ∈ WW := inWW (tb_4 _ (List.mem_of_getElem? (i := 152) rfl)) rfl
theorem ku_X10_18 : u_lay RX10 TX10 18 ∈ WW := inWW (tb_4 _ (List.mem_of_getElem? (i := 154) rfl)) rfl
theorem ku_X10_19 : u_lay RX10 TX10 19 ∈ WW := inWW (tb_4 _ (List.mem_of_getElem? (i := 156) rfl)) rfl
theorem ku_X10_20 : u_lay RX10 TX10 20 ∈ WW := inWW (tb_4 _ (List.mem_of_getElem? (i := 158) rfl)) rfl
theorem ku_X10_21 : u_lay RX10 TX10 21 ∈ WW := inWW (tb_4 _ (List.mem_of_getElem? (i := 160) rfl)) rfl
theorem ku_X10_22 : u_lay RX10 TX10 22 ∈ WW := inWW (tb_4 _ (List.mem_of_getElem? (i := 162) rfl)) rfl
theorem ku_X10_23 : u_lay RX10 TX10 23 ∈ WW := inWW (tb_4 _ (List.mem_of_getElem? (i := 164) rfl)) rfl
theorem ku_X10_24 : u_lay RX10 TX10 24 ∈ WW := inWW (tb_4 _ (List.mem_of_getElem? (i := 166) rfl)) rfl
theorem ku_X10_25 : u_lay RX10 TX10 25 ∈ WW := inWW (tb_4 _ (List.mem_of_getElem? (i := 168) rfl)) rfl
theorem ku_X10_26 : u_lay RX10 TX10 26 ∈ WW := inWW (tb_4 _ (List.mem_of_getElem? (i := 170) rfl)) rfl
theorem ku_X10_27 : u_lay RX10 TX10 27 ∈ WW := inWW (tb_4 _ (List.mem_of_getElem? (i := 172) rfl)) rfl
theorem ku_X10_28 : u_lay RX10 TX10 28 ∈ WW := inWW (tb_4 _ (List.mem_of_getElem? (i := 174) rfl)) rfl
theorem ku_X10_29 : u_lay RX10 TX10 29 ∈ WW := inWW (tb_4 _ (List.mem_of_getElem? (i := 176) rfl)) rfl
theorem ku_X10_30 : u_lay RX10 TX10 30 ∈ WW := inWW (tb_4 _ (List.mem_of_getElem? (i := 178) rfl)) rfl
theorem ku_X10_31 : u_lay RX10 TX10 31 ∈ WW := inWW (tb_4 _ (List.mem_of_getElem? (i := 180) rfl)) rfl
theorem ku_X10_32 : u_lay RX10 TX10 32 ∈ WW := inWW (tb_4 _ (List.mem_of_getElem? (i := 182) rfl)) rfl
theorem ku_X10_33 : u_lay RX10 TX10 33 ∈ WW := inWW (tb_4 _ (List.mem_of_getElem? (i := 184) rfl)) rfl
theorem ku_X10_34 : u_lay RX10 TX10 34 ∈ WW := inWW (tb_4 _ (List.mem_of_getElem? (i := 186) rfl)) rfl
theorem ku_X10_35 : u_lay RX10 TX10 35 ∈ WW := inWW (tb_4 _ (List.mem_of_getElem? (i := 188) rfl)) rfl
theorem ku_X10_36 : u_lay RX10 TX10 36 ∈ WW := inWW (tb_4 _ (List.mem_of_getElem? (i := 190) rfl)) rfl
theorem ku_X10_37 : u_lay RX10 TX10 37 ∈ WW := inWW (tb_4 _ (List.mem_of_getElem? (i := 192) rfl)) rfl
theorem ku_X10_38 : u_lay RX10 TX10 38 ∈ WW := inWW (tb_4 _ (List.mem_of_getElem? (i := 194) rfl)) rfl
theorem i_X10 : ∀ w ∈ wsX100, w ∈ WW := by
  intro w hw
  obtain ⟨k, hk, rfl⟩ := List.mem_map.mp hw
  have hk := List.mem_range.mp hk
  match k, hk with
  | 0, _ => exact ku_X10_0
  | 1, _ => exact ku_X10_1
  | 2, _ => exact ku_X10_2
  | 3, _ => exact ku_X10_3
  | 4, _ => exact ku_X10_4
  | 5, _ => exact ku_X10_5
  | 6, _ => exact ku_X10_6
  | 7, _ => exact ku_X10_7
  | 8, _ => exact ku_X10_8
  | 9, _ => exact ku_X10_9
  | 10, _ => exact ku_X10_10
  | 11, _ => exact ku_X10_11
  | 12, _ => exact ku_X10_12
  | 13, _ => exact ku_X10_13
  | 14, _ => exact ku_X10_14
  | 15, _ => exact ku_X10_15
  | 16, _ => exact ku_X10_16
  | 17, _ => exact ku_X10_17
  | 18, _ => exact ku_X10_18
  | 19, _ => exact ku_X10_19
  | 20, _ => exact ku_X10_20
  | 21, _ => exact ku_X10_21
  | 22, _ => exact ku_X10_22
  | 23, _ => exact ku_X10_23
  | 24, _ => exact ku_X10_24
  | 25, _ => exact ku_X10_25
  | 26, _ => exact ku_X10_26
  | 27, _ => exact ku_X10_27
  | 28, _ => exact ku_X10_28
  | 29, _ => exact ku_X10_29
  | 30, _ => exact ku_X10_30
  | 31, _ => exact ku_X10_31
  | 32, _ => exact ku_X10_32
  | 33, _ => exact ku_X10_33
  | 34, _ => exact ku_X10_34
  | 35, _ => exact ku_X10_35
  | 36, _ => exact ku_X10_36
  | 37, _ => exact ku_X10_37
  | 38, _ => exact ku_X10_38
  | k + 39, hk => exact absurd hk (by omega)
theorem gr_X8_29 : GoodIn WW (va_wsS RX8 29 yJ7_fill_53178 wsJ7_fill_53178) := gw_S km_X8_29 kt_J7_fill_53178 kz_J7 kc_J7_fill_53178
theorem gr_L_13 : GoodIn WW (wsV RL 13 RX9 yX9_parent wsX9_parent) := gw_V km_L_13 ki_X9_parent ks_X9_parent kz_X9 kc_X9_parent
theorem gr_X9_73 : GoodIn WW (va_wsS RX9 73 yX9_isClass wsX9_isClass) := gw_S km_X9_73 kt_X9_isClass kz_X9 kc_X9_isClass
theorem gr_L_18 : GoodIn WW (wsV RL 18 RX9 yX9_trait wsX9_trait) := gw_V km_L_18 ki_X9_trait ks_X9_trait kz_X9 kc_X9_trait
theorem gr_X9_84 : GoodIn WW (va_wsS RX9 84 yX9_isTrait wsX9_isTrait) := gw_S km_X9_84 kt_X9_isTrait kz_X9 kc_X9_isTrait
theorem gr_X9_87 : GoodIn WW (wsV RX9 87 RX8 yX8_addTrait wsX8_addTrait) := gw_V km_X9_87 ki_X8_addTrait ks_X8_addTrait kz_X8 kc_X8_addTrait
theorem gr_L_22 : GoodIn WW (wsV RL 22 RX9 yX9_has wsX9_has) := gw_V km_L_22 ki_X9_has ks_X9_has kz_X9 kc_X9_has
theorem gr_L_26 : GoodIn WW (wsV RL 26 RX9 yX9_flag wsX9_flag) := gw_V km_L_26 ki_X9_flag ks_X9_flag kz_X9 kc_X9_flag
theorem gr_X9_91 : GoodIn WW (wsV RX9 91 RX8 yX8_isAbstract wsX8_isAbstract) := gw_V km_X9_91 ki_X8_isAbstract ks_X8_isAbstract kz_X8 kc_X8_isAbstract
theorem gr_L_31 : GoodIn WW (wsV RL 31 RX9 yX9_close wsX9_close) := gw_V km_L_31 ki_X9_close ks_X9_close kz_X9 kc_X9_close
theorem gr_X9_97 : GoodIn WW (wsV RX9 97 RX8 yX8_findReach wsX8_findReach) := gw_V km_X9_97 ki_X8_findReach ks_X8_findReach kz_X8 kc_X8_findReach
theorem gr_X9_100 : GoodIn WW (wsV RX9 100 RX8 yX8_goesRound wsX8_goesRound) := gw_V km_X9_100 ki_X8_goesRound ks_X8_goesRound kz_X8 kc_X8_goesRound
theorem gr_L_36 : GoodIn WW (wsV RL 36 RX9 yX9_below wsX9_below) := gw_V km_L_36 ki_X9_below ks_X9_below kz_X9 kc_X9_below
theorem gr_X9_104 : GoodIn WW (va_wsS RX9 104 yX9_isCode wsX9_isCode) := gw_S km_X9_104 kt_X9_isCode kz_X9 kc_X9_isCode
theorem gr_X9_107 : GoodIn WW (wsV RX9 107 RX8 yX8_isBelow wsX8_isBelow) := gw_V km_X9_107 ki_X8_isBelow ks_X8_isBelow kz_X8 kc_X8_isBelow
theorem gr_L_41 : GoodIn WW (wsV RL 41 RX9 yX9_sample wsX9_sample) := gw_V km_L_41 ki_X9_sample ks_X9_sample kz_X9 kc_X9_sample
theorem gr_X9_111 : GoodIn WW (wsV RX9 111 RX7 yX7_bring wsX7_bring) := gw_V km_X9_111 ki_X7_bring ks_X7_bring kz_X7 kc_X7_bring
theorem gr_L_45 : GoodIn WW (wsV RL 45 RX9 yX9_of wsX9_of) := gw_V km_L_45 ki_X9_of ks_X9_of kz_X9 kc_X9_of
theorem gr_X9_114 : GoodIn WW (wsV RX9 114 RX7 yX7_holds wsX7_holds) := gw_V km_X9_114 ki_X7_holds ks_X7_holds kz_X7 kc_X7_holds
theorem gr_L_49 : GoodIn WW (wsV RL 49 RX9 yX9_samples wsX9_samples) := gw_V km_L_49 ki_X9_samples ks_X9_samples kz_X9 kc_X9_samples
theorem gr_L_53 : GoodIn WW (wsV RL 53 RX9 yX9_function wsX9_function) := gw_V km_L_53 ki_X9_function ks_X9_function kz_X9 kc_X9_function
theorem gr_L_57 : GoodIn WW (wsV RL 57 RX9 yX9_handler wsX9_handler) := gw_V km_L_57 ki_X9_handler ks_X9_handler kz_X9 kc_X9_handler
theorem gr_X9_129 : GoodIn WW (wsV RX9 129 RX9 yX9_functionAt wsX9_functionAt) := gw_V km_X9_129 ki_X9_functionAt ks_X9_functionAt kz_X9 kc_X9_functionAt
theorem gr_X2_47 : GoodIn WW (va_wsS RX2 47 yJ7_fill_53178 wsJ7_fill_53178) := gw_S km_X2_47 kt_J7_fill_53178 kz_J7 kc_J7_fill_53178
theorem gr_L_62 : GoodIn WW (wsV RL 62 RX9 yX9_place wsX9_place) := gw_V km_L_62 ki_X9_place ks_X9_place kz_X9 kc_X9_place
theorem gr_X9_136 : GoodIn WW (wsV RX9 136 RX9 yX9_handlerAt wsX9_handlerAt) := gw_V km_X9_136 ki_X9_handlerAt ks_X9_handlerAt kz_X9 kc_X9_handlerAt
theorem gr_X9_144 : GoodIn WW (wsV RX9 144 RX1 yX1_hasPlace wsX1_hasPlace) := gw_V km_X9_144 ki_X1_hasPlace ks_X1_hasPlace kz_X1 kc_X1_hasPlace
theorem gr_L_67 : GoodIn WW (wsV RL 67 RX9 yX9_test wsX9_test) := gw_V km_L_67 ki_X9_test ks_X9_test kz_X9 kc_X9_test
theorem gr_L_72 : GoodIn WW (wsV RL 72 RX9 yX9_lay wsX9_lay) := gw_V km_L_72 ki_X9_lay ks_X9_lay kz_X9 kc_X9_lay
theorem gr_X9_162 : GoodIn WW (wsV RX9 162 RX1 yX1_hasLaidSame wsX1_hasLaidSame) := gw_V km_X9_162 ki_X1_hasLaidSame ks_X1_hasLaidSame kz_X1 kc_X1_hasLaidSame
theorem gr_X1_60 : GoodIn WW (wsV RX1 60 RX2 yX2_isSameAs wsX2_isSameAs) := gw_V km_X1_60 ki_X2_isSameAs ks_X2_isSameAs kz_X2 kc_X2_isSameAs
theorem gr_X2_81 : GoodIn WW (wsV RX2 81 RX2 yX2_isSameAt wsX2_isSameAt) := gw_V km_X2_81 ki_X2_isSameAt ks_X2_isSameAt kz_X2 kc_X2_isSameAt
theorem gr_X9_166 : GoodIn WW (wsV RX9 166 RX1 yX1_putLaid wsX1_putLaid) := gw_V km_X9_166 ki_X1_putLaid ks_X1_putLaid kz_X1 kc_X1_putLaid
theorem gr_X1_64 : GoodIn WW (wsV RX1 64 RX1 yX1_compareLaid wsX1_compareLaid) := gw_V km_X1_64 ki_X1_compareLaid ks_X1_compareLaid kz_X1 kc_X1_compareLaid
theorem gr_X1_67 : GoodIn WW (wsV RX1 67 RX2 yX2_isMoreSpecific wsX2_isMoreSpecific) := gw_V km_X1_67 ki_X2_isMoreSpecific ks_X2_isMoreSpecific kz_X2 kc_X2_isMoreSpecific
theorem gr_X2_85 : GoodIn WW (wsV RX2 85 RX2 yX2_isNarrowerAt wsX2_isNarrowerAt) := gw_V km_X2_85 ki_X2_isNarrowerAt ks_X2_isNarrowerAt kz_X2 kc_X2_isNarrowerAt
theorem gr_X2_61 : GoodIn WW (wsV RX2 61 RX8 yX8_isBelow wsX8_isBelow) := gw_V km_X2_61 ki_X8_isBelow ks_X8_isBelow kz_X8 kc_X8_isBelow
theorem gr_X1_70 : GoodIn WW (wsV RX1 70 RX1 yX1_putInOrder wsX1_putInOrder) := gw_V km_X1_70 ki_X1_putInOrder ks_X1_putInOrder kz_X1 kc_X1_putInOrder
theorem gr_X1_76 : GoodIn WW (wsV RX1 76 RX1 yX1_beatenByAny wsX1_beatenByAny) := gw_V km_X1_76 ki_X1_beatenByAny ks_X1_beatenByAny kz_X1 kc_X1_beatenByAny
theorem gr_X1_73 : GoodIn WW (wsV RX1 73 RX4 yX4_forget wsX4_forget) := gw_V km_X1_73 ki_X4_forget ks_X4_forget kz_X4 kc_X4_forget
theorem gr_L_76 : GoodIn WW (wsV RL 76 RX9 yX9_lift wsX9_lift) := gw_V km_L_76 ki_X9_lift ks_X9_lift kz_X9 kc_X9_lift
theorem gr_X9_169 : GoodIn WW (wsV RX9 169 RX1 yX1_dropLaid wsX1_dropLaid) := gw_V km_X9_169 ki_X1_dropLaid ks_X1_dropLaid kz_X1 kc_X1_dropLaid
theorem gr_L_80 : GoodIn WW (wsV RL 80 RX9 yX9_freeze wsX9_freeze) := gw_V km_L_80 ki_X9_freeze ks_X9_freeze kz_X9 kc_X9_freeze
theorem gr_L_85 : GoodIn WW (wsV RL 85 RX9 yX9_about wsX9_about) := gw_V km_L_85 ki_X9_about ks_X9_about kz_X9 kc_X9_about
theorem gr_X9_185 : GoodIn WW (va_wsS RX9 185 yX9_elementOrZero wsX9_elementOrZero) := gw_S km_X9_185 kt_X9_elementOrZero kz_X9 kc_X9_elementOrZero
theorem gr_L_89 : GoodIn WW (wsV RL 89 RX9 yX9_dominates wsX9_dominates) := gw_V km_L_89 ki_X9_dominates ks_X9_dominates kz_X9 kc_X9_dominates
theorem gr_X9_189 : GoodIn WW (wsV RX9 189 RX2 yX2_isMoreSpecific wsX2_isMoreSpecific) := gw_V km_X9_189 ki_X2_isMoreSpecific ks_X2_isMoreSpecific kz_X2 kc_X2_isMoreSpecific
theorem gr_L_93 : GoodIn WW (wsV RL 93 RX9 yX9_order wsX9_order) := gw_V km_L_93 ki_X9_order ks_X9_order kz_X9 kc_X9_order
theorem gr_X9_198 : GoodIn WW (wsV RX9 198 RX1 yX1_numberAt wsX1_numberAt) := gw_V km_X9_198 ki_X1_numberAt ks_X1_numberAt kz_X1 kc_X1_numberAt
theorem gr_X1_52 : GoodIn WW (wsV RX1 52 RX1 yX1_laidAt wsX1_laidAt) := gw_V km_X1_52 ki_X1_laidAt ks_X1_laidAt kz_X1 kc_X1_laidAt
theorem gr_L_97 : GoodIn WW (wsV RL 97 RX9 yX9_arg wsX9_arg) := gw_V km_L_97 ki_X9_arg ks_X9_arg kz_X9 kc_X9_arg
theorem gr_L_101 : GoodIn WW (wsV RL 101 RX9 yX9_call wsX9_call) := gw_V km_L_101 ki_X9_call ks_X9_call kz_X9 kc_X9_call
theorem gr_X9_202 : GoodIn WW (wsV RX9 202 RX9 yX9_readToldRow wsX9_readToldRow) := gw_V km_X9_202 ki_X9_readToldRow ks_X9_readToldRow kz_X9 kc_X9_readToldRow
theorem gr_X9_206 : GoodIn WW (wsV RX9 206 RX3 yX3_begin wsX3_begin) := gw_V km_X9_206 ki_X3_begin ks_X3_begin kz_X3 kc_X3_begin
theorem gr_X9_212 : GoodIn WW (wsV RX9 212 RX9 yX9_carryOut wsX9_carryOut) := gw_V km_X9_212 ki_X9_carryOut ks_X9_carryOut kz_X9 kc_X9_carryOut
theorem gr_X9_295 : GoodIn WW (wsV RX9 295 RX9 yX9_isBarred wsX9_isBarred) := gw_V km_X9_295 ki_X9_isBarred ks_X9_isBarred kz_X9 kc_X9_isBarred
theorem gr_X9_306 : GoodIn WW (wsV RX9 306 RX6 yX6_weightTogether wsX6_weightTogether) := gw_V km_X9_306 ki_X6_weightTogether ks_X6_weightTogether kz_X6 kc_X6_weightTogether
theorem gr_X9_310 : GoodIn WW (wsV RX9 310 RX1 yX1_takersOf wsX1_takersOf) := gw_V km_X9_310 ki_X1_takersOf ks_X1_takersOf kz_X1 kc_X1_takersOf
theorem gr_X1_89 : GoodIn WW (wsV RX1 89 RX1 yX1_takersOfClass wsX1_takersOfClass) := gw_V km_X1_89 ki_X1_takersOfClass ks_X1_takersOfClass kz_X1 kc_X1_takersOfClass
theorem gr_X1_102 : GoodIn WW (wsV RX1 102 RX2 yX2_takesClass wsX2_takesClass) := gw_V km_X1_102 ki_X2_takesClass ks_X2_takesClass kz_X2 kc_X2_takesClass
theorem gr_X1_95 : GoodIn WW (wsV RX1 95 RX1 yX1_takersOfWeight wsX1_takersOfWeight) := gw_V km_X1_95 ki_X1_takersOfWeight ks_X1_takersOfWeight kz_X1 kc_X1_takersOfWeight
theorem gr_X1_106 : GoodIn WW (wsV RX1 106 RX2 yX2_takesWeight wsX2_takesWeight) := gw_V km_X1_106 ki_X2_takesWeight ks_X2_takesWeight kz_X2 kc_X2_takesWeight
theorem gr_X9_313 : GoodIn WW (wsV RX9 313 RX1 yX1_laidAt wsX1_laidAt) := gw_V km_X9_313 ki_X1_laidAt ks_X1_laidAt kz_X1 kc_X1_laidAt
theorem gr_X9_317 : GoodIn WW (wsV RX9 317 RX3 yX3_addStep wsX3_addStep) := gw_V km_X9_317 ki_X3_addStep ks_X3_addStep kz_X3 kc_X3_addStep
theorem gr_X9_298 : GoodIn WW (wsV RX9 298 RX1 yX1_lookForRow wsX1_lookForRow) := gw_V km_X9_298 ki_X1_lookForRow ks_X1_lookForRow kz_X1 kc_X1_lookForRow
theorem gr_X1_109 : GoodIn WW (wsV RX1 109 RX1 yX1_pieceOf wsX1_pieceOf) := gw_V km_X1_109 ki_X1_pieceOf ks_X1_pieceOf kz_X1 kc_X1_pieceOf
theorem gr_X1_125 : GoodIn WW (va_wsS RX1 125 yJ9_min_f86c9 wsJ9_min_f86c9) := gw_S km_X1_125 kt_J9_min_f86c9 kz_J9 kc_J9_min_f86c9
theorem gr_X1_113 : GoodIn WW (wsV RX1 113 RX4 yX4_look wsX4_look) := gw_V km_X1_113 ki_X4_look ks_X4_look kz_X4 kc_X4_look
theorem gr_X4_35 : GoodIn WW (wsV RX4 35 RX4 yX4_find wsX4_find) := gw_V km_X4_35 ki_X4_find ks_X4_find kz_X4 kc_X4_find
theorem gr_X4_39 : GoodIn WW (wsV RX4 39 RX4 yX4_makeRoom wsX4_makeRoom) := gw_V km_X4_39 ki_X4_makeRoom ks_X4_makeRoom kz_X4 kc_X4_makeRoom
theorem gr_X9_232 : GoodIn WW (wsV RX9 232 RX1 yX1_plainTakersOf wsX1_plainTakersOf) := gw_V km_X9_232 ki_X1_plainTakersOf ks_X1_plainTakersOf kz_X1 kc_X1_plainTakersOf
theorem gr_X1_98 : GoodIn WW (wsV RX1 98 RX1 yX1_takersOf wsX1_takersOf) := gw_V km_X1_98 ki_X1_takersOf ks_X1_takersOf kz_X1 kc_X1_takersOf
theorem gr_X9_302 : GoodIn WW (wsV RX9 302 RX9 yX9_runChosen wsX9_runChosen) := gw_V km_X9_302 ki_X9_runChosen ks_X9_runChosen kz_X9 kc_X9_runChosen
theorem gr_X9_239 : GoodIn WW (wsV RX9 239 RX1 yX1_chosenOf wsX1_chosenOf) := gw_V km_X9_239 ki_X1_chosenOf ks_X1_chosenOf kz_X1 kc_X1_chosenOf
theorem gr_X9_321 : GoodIn WW (wsV RX9 321 RX9 yX9_act wsX9_act) := gw_V km_X9_321 ki_X9_act ks_X9_act kz_X9 kc_X9_act
theorem gr_X9_325 : GoodIn WW (wsV RX9 325 RX3 yX3_endWithValue wsX3_endWithValue) := gw_V km_X9_325 ki_X3_endWithValue ks_X3_endWithValue kz_X3 kc_X3_endWithValue
theorem gr_X9_329 : GoodIn WW (wsV RX9 329 RX3 yX3_endWithFailure wsX3_endWithFailure) := gw_V km_X9_329 ki_X3_endWithFailure ks_X3_endWithFailure kz_X3 kc_X3_endWithFailure
theorem gr_X9_332 : GoodIn WW (va_wsS RX9 332 yJ9_floorMod_7cf53 wsJ9_floorMod_7cf53) := gw_S km_X9_332 kt_J9_floorMod_7cf53 kz_J9 kc_J9_floorMod_7cf53
theorem gr_X9_337 : GoodIn WW (wsV RX9 337 RX9 yX9_countUp wsX9_countUp) := gw_V km_X9_337 ki_X9_countUp ks_X9_countUp kz_X9 kc_X9_countUp
theorem gr_X9_340 : GoodIn WW (wsV RX9 340 RX9 yX9_bringSample wsX9_bringSample) := gw_V km_X9_340 ki_X9_bringSample ks_X9_bringSample kz_X9 kc_X9_bringSample
theorem gr_X9_343 : GoodIn WW (wsV RX9 343 RX9 yX9_calledWithin wsX9_calledWithin) := gw_V km_X9_343 ki_X9_calledWithin ks_X9_calledWithin kz_X9 kc_X9_calledWithin
theorem gr_X9_346 : GoodIn WW (wsV RX9 346 RX6 yX6_turnRound wsX6_turnRound) := gw_V km_X9_346 ki_X6_turnRound ks_X6_turnRound kz_X6 kc_X6_turnRound
theorem gr_X9_292 : GoodIn WW (wsV RX9 292 RX1 yX1_beatenBy wsX1_beatenBy) := gw_V km_X9_292 ki_X1_beatenBy ks_X1_beatenBy kz_X1 kc_X1_beatenBy
theorem gr_L_105 : GoodIn WW (wsV RL 105 RX9 yX9_value wsX9_value) := gw_V km_L_105 ki_X9_value ks_X9_value kz_X9 kc_X9_value
theorem gr_L_110 : GoodIn WW (wsV RL 110 RX9 yX9_failure wsX9_failure) := gw_V km_L_110 ki_X9_failure ks_X9_failure kz_X9 kc_X9_failure
theorem gr_L_114 : GoodIn WW (wsV RL 114 RX9 yX9_step wsX9_step) := gw_V km_L_114 ki_X9_step ks_X9_step kz_X9 kc_X9_step
theorem gr_L_118 : GoodIn WW (wsV RL 118 RX9 yX9_counter wsX9_counter) := gw_V km_L_118 ki_X9_counter ks_X9_counter kz_X9 kc_X9_counter
theorem gr_L_122 : GoodIn WW (wsV RL 122 RX9 yX9_applicable wsX9_applicable) := gw_V km_L_122 ki_X9_applicable ks_X9_applicable kz_X9 kc_X9_applicable
theorem gr_X9_236 : GoodIn WW (va_wsS RX9 236 yX9_memberAt wsX9_memberAt) := gw_S km_X9_236 kt_X9_memberAt kz_X9 kc_X9_memberAt
theorem gr_L_126 : GoodIn WW (wsV RL 126 RX9 yX9_most wsX9_most) := gw_V km_L_126 ki_X9_most ks_X9_most kz_X9 kc_X9_most
theorem gr_L_130 : GoodIn WW (wsV RL 130 RX9 yX9_explain wsX9_explain) := gw_V km_L_130 ki_X9_explain ks_X9_explain kz_X9 kc_X9_explain
theorem gr_X9_242 : GoodIn WW (wsV RX9 242 RX2 yX2_firstRefusingPlace wsX2_firstRefusingPlace) := gw_V km_X9_242 ki_X2_firstRefusingPlace ks_X2_firstRefusingPlace kz_X2 kc_X2_firstRefusingPlace
theorem gr_X2_72 : GoodIn WW (wsV RX2 72 RX2 yX2_takesClass wsX2_takesClass) := gw_V km_X2_72 ki_X2_takesClass ks_X2_takesClass kz_X2 kc_X2_takesClass
theorem gr_X2_78 : GoodIn WW (wsV RX2 78 RX2 yX2_takesWeight wsX2_takesWeight) := gw_V km_X2_78 ki_X2_takesWeight ks_X2_takesWeight kz_X2 kc_X2_takesWeight
theorem gr_X9_245 : GoodIn WW (wsV RX9 245 RX9 yX9_explainAmongTakers wsX9_explainAmongTakers) := gw_V km_X9_245 ki_X9_explainAmongTakers ks_X9_explainAmongTakers kz_X9 kc_X9_explainAmongTakers
theorem gr_X9_286 : GoodIn WW (wsV RX9 286 RX1 yX1_indexOf wsX1_indexOf) := gw_V km_X9_286 ki_X1_indexOf ks_X1_indexOf kz_X1 kc_X1_indexOf
theorem gr_X9_289 : GoodIn WW (wsV RX9 289 RX1 yX1_beatersOf wsX1_beatersOf) := gw_V km_X9_289 ki_X1_beatersOf ks_X1_beatersOf kz_X1 kc_X1_beatersOf
theorem gr_L_134 : GoodIn WW (wsV RL 134 RX9 yX9_where wsX9_where) := gw_V km_L_134 ki_X9_where ks_X9_where kz_X9 kc_X9_where
theorem gr_L_138 : GoodIn WW (wsV RL 138 RX9 yX9_count wsX9_count) := gw_V km_L_138 ki_X9_count ks_X9_count kz_X9 kc_X9_count
theorem gr_X9_249 : GoodIn WW (wsV RX9 249 RX9 yX9_countOfAll wsX9_countOfAll) := gw_V km_X9_249 ki_X9_countOfAll ks_X9_countOfAll kz_X9 kc_X9_countOfAll
theorem gr_L_142 : GoodIn WW (wsV RL 142 RX9 yX9_covered wsX9_covered) := gw_V km_L_142 ki_X9_covered ks_X9_covered kz_X9 kc_X9_covered
theorem gr_X9_265 : GoodIn WW (wsV RX9 265 RX5 yX5_findHole wsX5_findHole) := gw_V km_X9_265 ki_X5_findHole ks_X5_findHole kz_X5 kc_X5_findHole
theorem gr_X5_38 : GoodIn WW (wsV RX5 38 RX5 yX5_fillCells wsX5_fillCells) := gw_V km_X5_38 ki_X5_fillCells ks_X5_fillCells kz_X5 kc_X5_fillCells
theorem gr_X5_34 : GoodIn WW (wsV RX5 34 RX0 yX0_fill wsX0_fill) := gw_V km_X5_34 ki_X0_fill ks_X0_fill kz_X0 kc_X0_fill
theorem gr_X0_34 : GoodIn WW (wsV RX0 34 RX1 yX1_hasPlace wsX1_hasPlace) := gw_V km_X0_34 ki_X1_hasPlace ks_X1_hasPlace kz_X1 kc_X1_hasPlace
theorem gr_X0_43 : GoodIn WW (wsV RX0 43 RX0 yX0_addNew wsX0_addNew) := gw_V km_X0_43 ki_X0_addNew ks_X0_addNew kz_X0 kc_X0_addNew
theorem gr_X0_47 : GoodIn WW (wsV RX0 47 RX0 yX0_findStarts wsX0_findStarts) := gw_V km_X0_47 ki_X0_findStarts ks_X0_findStarts kz_X0 kc_X0_findStarts
theorem gr_X0_71 : GoodIn WW (wsV RX0 71 RX0 yX0_addStart wsX0_addStart) := gw_V km_X0_71 ki_X0_addStart ks_X0_addStart kz_X0 kc_X0_addStart
theorem gr_X0_78 : GoodIn WW (wsV RX0 78 RX1 yX1_laidAt wsX1_laidAt) := gw_V km_X0_78 ki_X1_laidAt ks_X1_laidAt kz_X1 kc_X1_laidAt
theorem gr_X0_95 : GoodIn WW (wsV RX0 95 RX1 yX1_takersOfWeight wsX1_takersOfWeight) := gw_V km_X0_95 ki_X1_takersOfWeight ks_X1_takersOfWeight kz_X1 kc_X1_takersOfWeight
theorem gr_X0_55 : GoodIn WW (wsV RX0 55 RX8 yX8_isAbstract wsX8_isAbstract) := gw_V km_X0_55 ki_X8_isAbstract ks_X8_isAbstract kz_X8 kc_X8_isAbstract
theorem gr_X0_60 : GoodIn WW (wsV RX0 60 RX1 yX1_takersOfClass wsX1_takersOfClass) := gw_V km_X0_60 ki_X1_takersOfClass ks_X1_takersOfClass kz_X1 kc_X1_takersOfClass
theorem gr_X0_64 : GoodIn WW (wsV RX0 64 RX0 yX0_addClass wsX0_addClass) := gw_V km_X0_64 ki_X0_addClass ks_X0_addClass kz_X0 kc_X0_addClass
theorem gr_X5_49 : GoodIn WW (wsV RX5 49 RX1 yX1_chosenOf wsX1_chosenOf) := gw_V km_X5_49 ki_X1_chosenOf ks_X1_chosenOf kz_X1 kc_X1_chosenOf
theorem gr_X5_55 : GoodIn WW (wsV RX5 55 RX5 yX5_foundAt wsX5_foundAt) := gw_V km_X5_55 ki_X5_foundAt ks_X5_foundAt kz_X5 kc_X5_foundAt
theorem gr_L_146 : GoodIn WW (wsV RL 146 RX9 yX9_hole wsX9_hole) := gw_V km_L_146 ki_X9_hole ks_X9_hole kz_X9 kc_X9_hole
theorem gr_X9_270 : GoodIn WW (wsV RX9 270 RX5 yX5_partOfTuple wsX5_partOfTuple) := gw_V km_X9_270 ki_X5_partOfTuple ks_X5_partOfTuple kz_X5 kc_X5_partOfTuple
theorem gr_L_151 : GoodIn WW (wsV RL 151 RX9 yX9_doubt wsX9_doubt) := gw_V km_L_151 ki_X9_doubt ks_X9_doubt kz_X9 kc_X9_doubt
theorem gr_X9_273 : GoodIn WW (wsV RX9 273 RX5 yX5_findDoubt wsX5_findDoubt) := gw_V km_X9_273 ki_X5_findDoubt ks_X5_findDoubt kz_X5 kc_X5_findDoubt
theorem gr_X5_62 : GoodIn WW (wsV RX5 62 RX5 yX5_haveDoubt wsX5_haveDoubt) := gw_V km_X5_62 ki_X5_haveDoubt ks_X5_haveDoubt kz_X5 kc_X5_haveDoubt
theorem gr_X5_69 : GoodIn WW (wsV RX5 69 RX1 yX1_beatenBy wsX1_beatenBy) := gw_V km_X5_69 ki_X1_beatenBy ks_X1_beatenBy kz_X1 kc_X1_beatenBy
theorem gr_X5_72 : GoodIn WW (wsV RX5 72 RX1 yX1_beatersOf wsX1_beatersOf) := gw_V km_X5_72 ki_X1_beatersOf ks_X1_beatersOf kz_X1 kc_X1_beatersOf
theorem gr_L_17 : GoodIn WW (wsV RL 17 RX10 yX10_parent wsX10_parent) := gw_V km_L_17 ki_X10_parent ks_X10_parent kz_X10 kc_X10_parent
theorem gr_X10_106 : GoodIn WW (va_wsS RX10 106 yX10_isClass wsX10_isClass) := gw_S km_X10_106 kt_X10_isClass kz_X10 kc_X10_isClass
theorem gr_L_21 : GoodIn WW (wsV RL 21 RX10 yX10_trait wsX10_trait) := gw_V km_L_21 ki_X10_trait ks_X10_trait kz_X10 kc_X10_trait
theorem gr_X10_114 : GoodIn WW (va_wsS RX10 114 yX10_isTrait wsX10_isTrait) := gw_S km_X10_114 kt_X10_isTrait kz_X10 kc_X10_isTrait
theorem gr_X10_117 : GoodIn WW (wsV RX10 117 RX10 yX10_add wsX10_add) := gw_V km_X10_117 ki_X10_add ks_X10_add kz_X10 kc_X10_add
theorem gr_L_25 : GoodIn WW (wsV RL 25 RX10 yX10_has wsX10_has) := gw_V km_L_25 ki_X10_has ks_X10_has kz_X10 kc_X10_has
theorem gr_L_30 : GoodIn WW (wsV RL 30 RX10 yX10_flag wsX10_flag) := gw_V km_L_30 ki_X10_flag ks_X10_flag kz_X10 kc_X10_flag
theorem gr_L_35 : GoodIn WW (wsV RL 35 RX10 yX10_close wsX10_close) := gw_V km_L_35 ki_X10_close ks_X10_close kz_X10 kc_X10_close
theorem gr_L_40 : GoodIn WW (wsV RL 40 RX10 yX10_below wsX10_below) := gw_V km_L_40 ki_X10_below ks_X10_below kz_X10 kc_X10_below
theorem gr_X10_121 : GoodIn WW (wsV RX10 121 RX10 yX10_isBelow wsX10_isBelow) := gw_V km_X10_121 ki_X10_isBelow ks_X10_isBelow kz_X10 kc_X10_isBelow
theorem gr_L_44 : GoodIn WW (wsV RL 44 RX10 yX10_sample wsX10_sample) := gw_V km_L_44 ki_X10_sample ks_X10_sample kz_X10 kc_X10_sample
theorem gr_L_48 : GoodIn WW (wsV RL 48 RX10 yX10_of wsX10_of) := gw_V km_L_48 ki_X10_of ks_X10_of kz_X10 kc_X10_of
theorem gr_L_52 : GoodIn WW (wsV RL 52 RX10 yX10_samples wsX10_samples) := gw_V km_L_52 ki_X10_samples ks_X10_samples kz_X10 kc_X10_samples
theorem gr_L_56 : GoodIn WW (wsV RL 56 RX10 yX10_function wsX10_function) := gw_V km_L_56 ki_X10_function ks_X10_function kz_X10 kc_X10_function
theorem gr_L_61 : GoodIn WW (wsV RL 61 RX10 yX10_handler wsX10_handler) := gw_V km_L_61 ki_X10_handler ks_X10_handler kz_X10 kc_X10_handler
theorem gr_X10_134 : GoodIn WW (wsV RX10 134 RX10 yX10_isFunction wsX10_isFunction) := gw_V km_X10_134 ki_X10_isFunction ks_X10_isFunction kz_X10 kc_X10_isFunction
theorem gr_L_66 : GoodIn WW (wsV RL 66 RX10 yX10_place wsX10_place) := gw_V km_L_66 ki_X10_place ks_X10_place kz_X10 kc_X10_place
theorem gr_X10_142 : GoodIn WW (wsV RX10 142 RX10 yX10_hasPlace wsX10_hasPlace) := gw_V km_X10_142 ki_X10_hasPlace ks_X10_hasPlace kz_X10 kc_X10_hasPlace
theorem gr_X10_139 : GoodIn WW (wsV RX10 139 RX10 yX10_isHandler wsX10_isHandler) := gw_V km_X10_139 ki_X10_isHandler ks_X10_isHandler kz_X10 kc_X10_isHandler
theorem gr_L_71 : GoodIn WW (wsV RL 71 RX10 yX10_test wsX10_test) := gw_V km_L_71 ki_X10_test ks_X10_test kz_X10 kc_X10_test
theorem gr_L_75 : GoodIn WW (wsV RL 75 RX10 yX10_lay wsX10_lay) := gw_V km_L_75 ki_X10_lay ks_X10_lay kz_X10 kc_X10_lay
theorem gr_X10_145 : GoodIn WW (wsV RX10 145 RX10 yX10_isLaid wsX10_isLaid) := gw_V km_X10_145 ki_X10_isLaid ks_X10_isLaid kz_X10 kc_X10_isLaid
theorem gr_X10_148 : GoodIn WW (wsV RX10 148 RX10 yX10_areSame wsX10_areSame) := gw_V km_X10_148 ki_X10_areSame ks_X10_areSame kz_X10 kc_X10_areSame
theorem gr_X10_155 : GoodIn WW (wsV RX10 155 RX10 yX10_laid wsX10_laid) := gw_V km_X10_155 ki_X10_laid ks_X10_laid kz_X10 kc_X10_laid
theorem gr_L_79 : GoodIn WW (wsV RL 79 RX10 yX10_lift wsX10_lift) := gw_V km_L_79 ki_X10_lift ks_X10_lift kz_X10 kc_X10_lift
theorem gr_L_84 : GoodIn WW (wsV RL 84 RX10 yX10_freeze wsX10_freeze) := gw_V km_L_84 ki_X10_freeze ks_X10_freeze kz_X10 kc_X10_freeze
theorem gr_L_88 : GoodIn WW (wsV RL 88 RX10 yX10_about wsX10_about) := gw_V km_L_88 ki_X10_about ks_X10_about kz_X10 kc_X10_about
theorem gr_L_92 : GoodIn WW (wsV RL 92 RX10 yX10_dominates wsX10_dominates) := gw_V km_L_92 ki_X10_dominates ks_X10_dominates kz_X10 kc_X10_dominates
theorem gr_X10_159 : GoodIn WW (wsV RX10 159 RX10 yX10_isMore wsX10_isMore) := gw_V km_X10_159 ki_X10_isMore ks_X10_isMore kz_X10 kc_X10_isMore
theorem gr_X10_152 : GoodIn WW (wsV RX10 152 RX10 yX10_isNarrower wsX10_isNarrower) := gw_V km_X10_152 ki_X10_isNarrower ks_X10_isNarrower kz_X10 kc_X10_isNarrower
theorem gr_L_96 : GoodIn WW (wsV RL 96 RX10 yX10_order wsX10_order) := gw_V km_L_96 ki_X10_order ks_X10_order kz_X10 kc_X10_order
theorem gr_X10_162 : GoodIn WW (wsV RX10 162 RX10 yX10_inOrder wsX10_inOrder) := gw_V km_X10_162 ki_X10_inOrder ks_X10_inOrder kz_X10 kc_X10_inOrder
theorem gr_L_100 : GoodIn WW (wsV RL 100 RX10 yX10_arg wsX10_arg) := gw_V km_L_100 ki_X10_arg ks_X10_arg kz_X10 kc_X10_arg
theorem gr_L_104 : GoodIn WW (wsV RL 104 RX10 yX10_call wsX10_call) := gw_V km_L_104 ki_X10_call ks_X10_call kz_X10 kc_X10_call
theorem gr_X10_238 : GoodIn WW (wsV RX10 238 RX10 yX10_tellRow wsX10_tellRow) := gw_V km_X10_238 ki_X10_tellRow ks_X10_tellRow kz_X10 kc_X10_tellRow
theorem gr_X10_225 : GoodIn WW (wsV RX10 225 RX10 yX10_begin wsX10_begin) := gw_V km_X10_225 ki_X10_begin ks_X10_begin kz_X10 kc_X10_begin
theorem gr_X10_194 : GoodIn WW (wsV RX10 194 RX10 yX10_isBarred wsX10_isBarred) := gw_V km_X10_194 ki_X10_isBarred ks_X10_isBarred kz_X10 kc_X10_isBarred
theorem gr_X10_168 : GoodIn WW (wsV RX10 168 RX10 yX10_takes wsX10_takes) := gw_V km_X10_168 ki_X10_takes ks_X10_takes kz_X10 kc_X10_takes
theorem gr_X10_165 : GoodIn WW (wsV RX10 165 RX10 yX10_takesAt wsX10_takesAt) := gw_V km_X10_165 ki_X10_takesAt ks_X10_takesAt kz_X10 kc_X10_takesAt
theorem gr_X10_183 : GoodIn WW (wsV RX10 183 RX10 yX10_note wsX10_note) := gw_V km_X10_183 ki_X10_note ks_X10_note kz_X10 kc_X10_note
theorem gr_X10_187 : GoodIn WW (wsV RX10 187 RX10 yX10_weight wsX10_weight) := gw_V km_X10_187 ki_X10_weight ks_X10_weight kz_X10 kc_X10_weight
theorem gr_X10_197 : GoodIn WW (wsV RX10 197 RX10 yX10_remember wsX10_remember) := gw_V km_X10_197 ki_X10_remember ks_X10_remember kz_X10 kc_X10_remember
theorem gr_X10_176 : GoodIn WW (wsV RX10 176 RX10 yX10_piece wsX10_piece) := gw_V km_X10_176 ki_X10_piece ks_X10_piece kz_X10 kc_X10_piece
theorem gr_X10_200 : GoodIn WW (wsV RX10 200 RX10 yX10_choose wsX10_choose) := gw_V km_X10_200 ki_X10_choose ks_X10_choose kz_X10 kc_X10_choose
theorem gr_X10_203 : GoodIn WW (wsV RX10 203 RX10 yX10_offered wsX10_offered) := gw_V km_X10_203 ki_X10_offered ks_X10_offered kz_X10 kc_X10_offered
theorem gr_X10_171 : GoodIn WW (wsV RX10 171 RX10 yX10_isOffered wsX10_isOffered) := gw_V km_X10_171 ki_X10_isOffered ks_X10_isOffered kz_X10 kc_X10_isOffered
theorem gr_X10_206 : GoodIn WW (wsV RX10 206 RX10 yX10_chosen wsX10_chosen) := gw_V km_X10_206 ki_X10_chosen ks_X10_chosen kz_X10 kc_X10_chosen
theorem gr_X10_241 : GoodIn WW (wsV RX10 241 RX10 yX10_run wsX10_run) := gw_V km_X10_241 ki_X10_run ks_X10_run kz_X10 kc_X10_run
theorem gr_X10_228 : GoodIn WW (wsV RX10 228 RX10 yX10_end wsX10_end) := gw_V km_X10_228 ki_X10_end ks_X10_end kz_X10 kc_X10_end
theorem gr_X10_219 : GoodIn WW (wsV RX10 219 RX10 yX10_fail wsX10_fail) := gw_V km_X10_219 ki_X10_fail ks_X10_fail kz_X10 kc_X10_fail
theorem gr_X10_216 : GoodIn WW (va_wsS RX10 216 yX10_rest wsX10_rest) := gw_S km_X10_216 kt_X10_rest kz_X10 kc_X10_rest
theorem gr_X10_232 : GoodIn WW (wsV RX10 232 RX10 yX10_grow wsX10_grow) := gw_V km_X10_232 ki_X10_grow ks_X10_grow kz_X10 kc_X10_grow
theorem gr_X10_235 : GoodIn WW (wsV RX10 235 RX10 yX10_callOn wsX10_callOn) := gw_V km_X10_235 ki_X10_callOn ks_X10_callOn kz_X10 kc_X10_callOn
theorem gr_X10_222 : GoodIn WW (wsV RX10 222 RX10 yX10_turn wsX10_turn) := gw_V km_X10_222 ki_X10_turn ks_X10_turn kz_X10 kc_X10_turn
theorem gr_L_109 : GoodIn WW (wsV RL 109 RX10 yX10_value wsX10_value) := gw_V km_L_109 ki_X10_value ks_X10_value kz_X10 kc_X10_value
theorem gr_L_113 : GoodIn WW (wsV RL 113 RX10 yX10_failure wsX10_failure) := gw_V km_L_113 ki_X10_failure ks_X10_failure kz_X10 kc_X10_failure
theorem gr_L_117 : GoodIn WW (wsV RL 117 RX10 yX10_step wsX10_step) := gw_V km_L_117 ki_X10_step ks_X10_step kz_X10 kc_X10_step
theorem gr_L_121 : GoodIn WW (wsV RL 121 RX10 yX10_counter wsX10_counter) := gw_V km_L_121 ki_X10_counter ks_X10_counter kz_X10 kc_X10_counter
theorem gr_L_125 : GoodIn WW (wsV RL 125 RX10 yX10_applicable wsX10_applicable) := gw_V km_L_125 ki_X10_applicable ks_X10_applicable kz_X10 kc_X10_applicable
theorem gr_L_129 : GoodIn WW (wsV RL 129 RX10 yX10_most wsX10_most) := gw_V km_L_129 ki_X10_most ks_X10_most kz_X10 kc_X10_most
theorem gr_L_133 : GoodIn WW (wsV RL 133 RX10 yX10_explain wsX10_explain) := gw_V km_L_133 ki_X10_explain ks_X10_explain kz_X10 kc_X10_explain
theorem gr_X10_244 : GoodIn WW (wsV RX10 244 RX10 yX10_moreThan wsX10_moreThan) := gw_V km_X10_244 ki_X10_moreThan ks_X10_moreThan kz_X10 kc_X10_moreThan
theorem gr_L_137 : GoodIn WW (wsV RL 137 RX10 yX10_where wsX10_where) := gw_V km_L_137 ki_X10_where ks_X10_where kz_X10 kc_X10_where
theorem gr_L_141 : GoodIn WW (wsV RL 141 RX10 yX10_count wsX10_count) := gw_V km_L_141 ki_X10_count ks_X10_count kz_X10 kc_X10_count
theorem gr_X10_247 : GoodIn WW (wsV RX10 247 RX10 yX10_countAll wsX10_countAll) := gw_V km_X10_247 ki_X10_countAll ks_X10_countAll kz_X10 kc_X10_countAll
theorem gr_L_145 : GoodIn WW (wsV RL 145 RX10 yX10_covered wsX10_covered) := gw_V km_L_145 ki_X10_covered ks_X10_covered kz_X10 kc_X10_covered
theorem gr_X10_271 : GoodIn WW (wsV RX10 271 RX10 yX10_findHole wsX10_findHole) := gw_V km_X10_271 ki_X10_findHole ks_X10_findHole kz_X10 kc_X10_findHole
theorem gr_X10_262 : GoodIn WW (wsV RX10 262 RX10 yX10_firstTuple wsX10_firstTuple) := gw_V km_X10_262 ki_X10_firstTuple ks_X10_firstTuple kz_X10 kc_X10_firstTuple
theorem gr_X10_252 : GoodIn WW (wsV RX10 252 RX10 yX10_nextClass wsX10_nextClass) := gw_V km_X10_252 ki_X10_nextClass ks_X10_nextClass kz_X10 kc_X10_nextClass
theorem gr_X10_255 : GoodIn WW (wsV RX10 255 RX10 yX10_findEdges wsX10_findEdges) := gw_V km_X10_255 ki_X10_findEdges ks_X10_findEdges kz_X10 kc_X10_findEdges
theorem gr_X10_265 : GoodIn WW (wsV RX10 265 RX10 yX10_nextTuple wsX10_nextTuple) := gw_V km_X10_265 ki_X10_nextTuple ks_X10_nextTuple kz_X10 kc_X10_nextTuple
theorem gr_X10_259 : GoodIn WW (wsV RX10 259 RX10 yX10_nextAt wsX10_nextAt) := gw_V km_X10_259 ki_X10_nextAt ks_X10_nextAt kz_X10 kc_X10_nextAt
theorem gr_X10_268 : GoodIn WW (wsV RX10 268 RX10 yX10_keepTuple wsX10_keepTuple) := gw_V km_X10_268 ki_X10_keepTuple ks_X10_keepTuple kz_X10 kc_X10_keepTuple
theorem gr_L_150 : GoodIn WW (wsV RL 150 RX10 yX10_hole wsX10_hole) := gw_V km_L_150 ki_X10_hole ks_X10_hole kz_X10 kc_X10_hole
theorem gr_L_155 : GoodIn WW (wsV RL 155 RX10 yX10_doubt wsX10_doubt) := gw_V km_L_155 ki_X10_doubt ks_X10_doubt kz_X10 kc_X10_doubt
theorem gr_X10_279 : GoodIn WW (wsV RX10 279 RX10 yX10_findDoubt wsX10_findDoubt) := gw_V km_X10_279 ki_X10_findDoubt ks_X10_findDoubt kz_X10 kc_X10_findDoubt
theorem gr_X10_276 : GoodIn WW (wsV RX10 276 RX10 yX10_areInDoubt wsX10_areInDoubt) := gw_V km_X10_276 ki_X10_areInDoubt ks_X10_areInDoubt kz_X10 kc_X10_areInDoubt
end
section
theorem dX0_init_0 : decode cX0_init 0 = .ok (.aload_n 0, 1) := by decide +kernel
theorem dX0_init_1 : decode cX0_init 1 = .ok (.invokespecial 3, 3) := by decide +kernel
theorem dX0_init_4 : decode cX0_init 4 = .ok (.aload_n 0, 1) := by decide +kernel
theorem dX0_init_5 : decode cX0_init 5 = .ok (.sipush 204, 3) := by decide +kernel
theorem dX0_init_8 : decode cX0_init 8 = .ok (.newarray .int, 2) := by decide +kernel
theorem dX0_init_10 : decode cX0_init 10 = .ok (.putfield 9, 3) := by decide +kernel
theorem dX0_init_13 : decode cX0_init 13 = .ok (.aload_n 0, 1) := by decide +kernel
theorem dX0_init_14 : decode cX0_init 14 = .ok (.sipush 204, 3) := by decide +kernel
theorem dX0_init_17 : decode cX0_init 17 = .ok (.newarray .int, 2) := by decide +kernel
theorem dX0_init_19 : decode cX0_init 19 = .ok (.putfield 15, 3) := by decide +kernel
theorem dX0_init_22 : decode cX0_init 22 = .ok (.aload_n 0, 1) := by decide +kernel
theorem dX0_init_23 : decode cX0_init 23 = .ok (.sipush 204, 3) := by decide +kernel
theorem dX0_init_26 : decode cX0_init 26 = .ok (.newarray .int, 2) := by decide +kernel
theorem dX0_init_28 : decode cX0_init 28 = .ok (.putfield 18, 3) := by decide +kernel
theorem dX0_init_31 : decode cX0_init 31 = .ok (.aload_n 0, 1) := by decide +kernel
theorem dX0_init_32 : decode cX0_init 32 = .ok (.iconst 0, 1) := by decide +kernel
theorem dX0_init_33 : decode cX0_init 33 = .ok (.putfield 21, 3) := by decide +kernel
theorem dX0_init_36 : decode cX0_init 36 = .ok (.aload_n 0, 1) := by decide +kernel
theorem dX0_init_37 : decode cX0_init 37 = .ok (.bipush 17, 2) := by decide +kernel
theorem dX0_init_39 : decode cX0_init 39 = .ok (.newarray .int, 2) := by decide +kernel
theorem dX0_init_41 : decode cX0_init 41 = .ok (.putfield 25, 3) := by decide +kernel
theorem dX0_init_44 : decode cX0_init 44 = .ok (.aload_n 0, 1) := by decide +kernel
theorem dX0_init_45 : decode cX0_init 45 = .ok (.bipush 17, 2) := by decide +kernel
theorem dX0_init_47 : decode cX0_init 47 = .ok (.newarray .int, 2) := by decide +kernel
theorem dX0_init_49 : decode cX0_init 49 = .ok (.putfield 28, 3) := by decide +kernel
theorem dX0_init_52 : decode cX0_init 52 = .ok (.aload_n 0, 1) := by decide +kernel
theorem dX0_init_53 : decode cX0_init 53 = .ok (.iconst 0, 1) := by decide +kernel
theorem dX0_init_54 : decode cX0_init 54 = .ok (.putfield 31, 3) := by decide +kernel
theorem dX0_init_57 : decode cX0_init 57 = .ok (.return_, 1) := by decide +kernel
theorem dX0_fill_0 : decode cX0_fill 0 = .ok (.aload_n 0, 1) := by decide +kernel
theorem dX0_fill_1 : decode cX0_fill 1 = .ok (.iconst 0, 1) := by decide +kernel
theorem dX0_fill_2 : decode cX0_fill 2 = .ok (.putfield 21, 3) := by decide +kernel
theorem dX0_fill_5 : decode cX0_fill 5 = .ok (.aload_n 1, 1) := by decide +kernel
theorem dX0_fill_6 : decode cX0_fill 6 = .ok (.iload_n 2, 1) := by decide +kernel
theorem dX0_fill_7 : decode cX0_fill 7 = .ok (.invokevirtual 34, 3) := by decide +kernel
theorem dX0_fill_10 : decode cX0_fill 10 = .ok (.ifCond .ne 14, 3) := by decide +kernel
theorem dX0_fill_13 : decode cX0_fill 13 = .ok (.aload_n 0, 1) := by decide +kernel
theorem dX0_fill_14 : decode cX0_fill 14 = .ok (.iconst 0, 1) := by decide +kernel
theorem dX0_fill_15 : decode cX0_fill 15 = .ok (.iconst 0, 1) := by decide +kernel
theorem dX0_fill_16 : decode cX0_fill 16 = .ok (.aload_n 1, 1) := by decide +kernel
theorem dX0_fill_17 : decode cX0_fill 17 = .ok (.getfield 40, 3) := by decide +kernel
theorem dX0_fill_20 : decode cX0_fill 20 = .ok (.invokevirtual 43, 3) := by decide +kernel
theorem dX0_fill_23 : decode cX0_fill 23 = .ok (.return_, 1) := by decide +kernel
theorem dX0_fill_24 : decode cX0_fill 24 = .ok (.aload_n 0, 1) := by decide +kernel
theorem dX0_fill_25 : decode cX0_fill 25 = .ok (.aload_n 1, 1) := by decide +kernel
theorem dX0_fill_26 : decode cX0_fill 26 = .ok (.iload_n 2, 1) := by decide +kernel
theorem dX0_fill_27 : decode cX0_fill 27 = .ok (.invokevirtual 47, 3) := by decide +kernel
theorem dX0_fill_30 : decode cX0_fill 30 = .ok (.iconst 0, 1) := by decide +kernel
theorem dX0_fill_31 : decode cX0_fill 31 = .ok (.istore_n 3, 1) := by decide +kernel
theorem dX0_fill_32 : decode cX0_fill 32 = .ok (.iload_n 3, 1) := by decide +kernel
theorem dX0_fill_33 : decode cX0_fill 33 = .ok (.bipush 12, 2) := by decide +kernel
theorem dX0_fill_35 : decode cX0_fill 35 = .ok (.if_icmp .ge 36, 3) := by decide +kernel
theorem dX0_fill_38 : decode cX0_fill 38 = .ok (.aload_n 1, 1) := by decide +kernel
theorem dX0_fill_39 : decode cX0_fill 39 = .ok (.getfield 51, 3) := by decide +kernel
theorem dX0_fill_42 : decode cX0_fill 42 = .ok (.iload_n 3, 1) := by decide +kernel
theorem dX0_fill_43 : decode cX0_fill 43 = .ok (.invokevirtual 55, 3) := by decide +kernel
theorem dX0_fill_46 : decode cX0_fill 46 = .ok (.ifCond .ne 19, 3) := by decide +kernel
theorem dX0_fill_49 : decode cX0_fill 49 = .ok (.aload_n 0, 1) := by decide +kernel
theorem dX0_fill_50 : decode cX0_fill 50 = .ok (.iload_n 3, 1) := by decide +kernel
theorem dX0_fill_51 : decode cX0_fill 51 = .ok (.aload_n 1, 1) := by decide +kernel
theorem dX0_fill_52 : decode cX0_fill 52 = .ok (.iload_n 2, 1) := by decide +kernel
theorem dX0_fill_53 : decode cX0_fill 53 = .ok (.iload_n 3, 1) := by decide +kernel
theorem dX0_fill_54 : decode cX0_fill 54 = .ok (.invokevirtual 60, 3) := by decide +kernel
theorem dX0_fill_57 : decode cX0_fill 57 = .ok (.aload_n 1, 1) := by decide +kernel
theorem dX0_fill_58 : decode cX0_fill 58 = .ok (.getfield 40, 3) := by decide +kernel
theorem dX0_fill_61 : decode cX0_fill 61 = .ok (.iand, 1) := by decide +kernel
theorem dX0_fill_62 : decode cX0_fill 62 = .ok (.invokevirtual 64, 3) := by decide +kernel
theorem dX0_fill_65 : decode cX0_fill 65 = .ok (.iinc 3 1, 3) := by decide +kernel
theorem dX0_fill_68 : decode cX0_fill 68 = .ok (.goto (-36), 3) := by decide +kernel
theorem dX0_fill_71 : decode cX0_fill 71 = .ok (.return_, 1) := by decide +kernel
theorem dX0_addClass_0 : decode cX0_addClass 0 = .ok (.iconst 0, 1) := by decide +kernel
theorem dX0_addClass_1 : decode cX0_addClass 1 = .ok (.istore_n 3, 1) := by decide +kernel
theorem dX0_addClass_2 : decode cX0_addClass 2 = .ok (.iload_n 3, 1) := by decide +kernel
theorem dX0_addClass_3 : decode cX0_addClass 3 = .ok (.aload_n 0, 1) := by decide +kernel
theorem dX0_addClass_4 : decode cX0_addClass 4 = .ok (.getfield 31, 3) := by decide +kernel
theorem dX0_addClass_7 : decode cX0_addClass 7 = .ok (.if_icmp .ge 28, 3) := by decide +kernel
theorem dX0_addClass_10 : decode cX0_addClass 10 = .ok (.aload_n 0, 1) := by decide +kernel
theorem dX0_addClass_11 : decode cX0_addClass 11 = .ok (.iload_n 1, 1) := by decide +kernel
theorem dX0_addClass_12 : decode cX0_addClass 12 = .ok (.aload_n 0, 1) := by decide +kernel
theorem dX0_addClass_13 : decode cX0_addClass 13 = .ok (.getfield 25, 3) := by decide +kernel
theorem dX0_addClass_16 : decode cX0_addClass 16 = .ok (.iload_n 3, 1) := by decide +kernel
theorem dX0_addClass_17 : decode cX0_addClass 17 = .ok (.iaload, 1) := by decide +kernel
theorem dX0_addClass_18 : decode cX0_addClass 18 = .ok (.iload_n 2, 1) := by decide +kernel
theorem dX0_addClass_19 : decode cX0_addClass 19 = .ok (.aload_n 0, 1) := by decide +kernel
theorem dX0_addClass_20 : decode cX0_addClass 20 = .ok (.getfield 28, 3) := by decide +kernel
theorem dX0_addClass_23 : decode cX0_addClass 23 = .ok (.iload_n 3, 1) := by decide +kernel
theorem dX0_addClass_24 : decode cX0_addClass 24 = .ok (.iaload, 1) := by decide +kernel
theorem dX0_addClass_25 : decode cX0_addClass 25 = .ok (.iand, 1) := by decide +kernel
theorem dX0_addClass_26 : decode cX0_addClass 26 = .ok (.invokevirtual 43, 3) := by decide +kernel
theorem dX0_addClass_29 : decode cX0_addClass 29 = .ok (.iinc 3 1, 3) := by decide +kernel
theorem dX0_addClass_32 : decode cX0_addClass 32 = .ok (.goto (-30), 3) := by decide +kernel
theorem dX0_addClass_35 : decode cX0_addClass 35 = .ok (.return_, 1) := by decide +kernel
theorem dX0_addNew_0 : decode cX0_addNew 0 = .ok (.iconst 0, 1) := by decide +kernel
theorem dX0_addNew_1 : decode cX0_addNew 1 = .ok (.istore 4, 2) := by decide +kernel
theorem dX0_addNew_3 : decode cX0_addNew 3 = .ok (.iload 4, 2) := by decide +kernel
theorem dX0_addNew_5 : decode cX0_addNew 5 = .ok (.aload_n 0, 1) := by decide +kernel
theorem dX0_addNew_6 : decode cX0_addNew 6 = .ok (.getfield 21, 3) := by decide +kernel
theorem dX0_addNew_9 : decode cX0_addNew 9 = .ok (.if_icmp .ge 21, 3) := by decide +kernel
theorem dX0_addNew_12 : decode cX0_addNew 12 = .ok (.aload_n 0, 1) := by decide +kernel
theorem dX0_addNew_13 : decode cX0_addNew 13 = .ok (.getfield 18, 3) := by decide +kernel
theorem dX0_addNew_16 : decode cX0_addNew 16 = .ok (.iload 4, 2) := by decide +kernel
theorem dX0_addNew_18 : decode cX0_addNew 18 = .ok (.iaload, 1) := by decide +kernel
theorem dX0_addNew_19 : decode cX0_addNew 19 = .ok (.iload_n 3, 1) := by decide +kernel
theorem dX0_addNew_20 : decode cX0_addNew 20 = .ok (.if_icmp .ne 4, 3) := by decide +kernel
theorem dX0_addNew_23 : decode cX0_addNew 23 = .ok (.return_, 1) := by decide +kernel
theorem dX0_addNew_24 : decode cX0_addNew 24 = .ok (.iinc 4 1, 3) := by decide +kernel
theorem dX0_addNew_27 : decode cX0_addNew 27 = .ok (.goto (-24), 3) := by decide +kernel
theorem dX0_addNew_30 : decode cX0_addNew 30 = .ok (.aload_n 0, 1) := by decide +kernel
theorem dX0_addNew_31 : decode cX0_addNew 31 = .ok (.getfield 21, 3) := by decide +kernel
theorem dX0_addNew_34 : decode cX0_addNew 34 = .ok (.sipush 204, 3) := by decide +kernel
theorem dX0_addNew_37 : decode cX0_addNew 37 = .ok (.if_icmp .ge 43, 3) := by decide +kernel
theorem dX0_addNew_40 : decode cX0_addNew 40 = .ok (.aload_n 0, 1) := by decide +kernel
theorem dX0_addNew_41 : decode cX0_addNew 41 = .ok (.getfield 9, 3) := by decide +kernel
theorem dX0_addNew_44 : decode cX0_addNew 44 = .ok (.aload_n 0, 1) := by decide +kernel
theorem dX0_addNew_45 : decode cX0_addNew 45 = .ok (.getfield 21, 3) := by decide +kernel
theorem dX0_addNew_48 : decode cX0_addNew 48 = .ok (.iload_n 1, 1) := by decide +kernel
theorem dX0_addNew_49 : decode cX0_addNew 49 = .ok (.iastore, 1) := by decide +kernel
theorem dX0_addNew_50 : decode cX0_addNew 50 = .ok (.aload_n 0, 1) := by decide +kernel
theorem dX0_addNew_51 : decode cX0_addNew 51 = .ok (.getfield 15, 3) := by decide +kernel
theorem dX0_addNew_54 : decode cX0_addNew 54 = .ok (.aload_n 0, 1) := by decide +kernel
theorem dX0_addNew_55 : decode cX0_addNew 55 = .ok (.getfield 21, 3) := by decide +kernel
theorem dX0_addNew_58 : decode cX0_addNew 58 = .ok (.iload_n 2, 1) := by decide +kernel
theorem dX0_addNew_59 : decode cX0_addNew 59 = .ok (.iastore, 1) := by decide +kernel
theorem dX0_addNew_60 : decode cX0_addNew 60 = .ok (.aload_n 0, 1) := by decide +kernel
theorem dX0_addNew_61 : decode cX0_addNew 61 = .ok (.getfield 18, 3) := by decide +kernel
theorem dX0_addNew_64 : decode cX0_addNew 64 = .ok (.aload_n 0, 1) := by decide +kernel
theorem dX0_addNew_65 : decode cX0_addNew 65 = .ok (.getfield 21, 3) := by decide +kernel
theorem dX0_addNew_68 : decode cX0_addNew 68 = .ok (.iload_n 3, 1) := by decide +kernel
theorem dX0_addNew_69 : decode cX0_addNew 69 = .ok (.iastore, 1) := by decide +kernel
theorem dX0_addNew_70 : decode cX0_addNew 70 = .ok (.aload_n 0, 1) := by decide +kernel
theorem dX0_addNew_71 : decode cX0_addNew 71 = .ok (.dup, 1) := by decide +kernel
theorem dX0_addNew_72 : decode cX0_addNew 72 = .ok (.getfield 21, 3) := by decide +kernel
theorem dX0_addNew_75 : decode cX0_addNew 75 = .ok (.iconst 1, 1) := by decide +kernel
theorem dX0_addNew_76 : decode cX0_addNew 76 = .ok (.iadd, 1) := by decide +kernel
theorem dX0_addNew_77 : decode cX0_addNew 77 = .ok (.putfield 21, 3) := by decide +kernel
theorem dX0_addNew_80 : decode cX0_addNew 80 = .ok (.return_, 1) := by decide +kernel
theorem dX0_findStarts_0 : decode cX0_findStarts 0 = .ok (.aload_n 0, 1) := by decide +kernel
theorem dX0_findStarts_1 : decode cX0_findStarts 1 = .ok (.iconst 0, 1) := by decide +kernel
theorem dX0_findStarts_2 : decode cX0_findStarts 2 = .ok (.putfield 31, 3) := by decide +kernel
theorem dX0_findStarts_5 : decode cX0_findStarts 5 = .ok (.aload_n 0, 1) := by decide +kernel
theorem dX0_findStarts_6 : decode cX0_findStarts 6 = .ok (.ldc 70, 2) := by decide +kernel
theorem dX0_findStarts_8 : decode cX0_findStarts 8 = .ok (.invokevirtual 71, 3) := by decide +kernel
theorem dX0_findStarts_11 : decode cX0_findStarts 11 = .ok (.iconst 0, 1) := by decide +kernel
theorem dX0_findStarts_12 : decode cX0_findStarts 12 = .ok (.istore_n 3, 1) := by decide +kernel
theorem dX0_findStarts_13 : decode cX0_findStarts 13 = .ok (.iload_n 3, 1) := by decide +kernel
theorem dX0_findStarts_14 : decode cX0_findStarts 14 = .ok (.aload_n 1, 1) := by decide +kernel
theorem dX0_findStarts_15 : decode cX0_findStarts 15 = .ok (.getfield 75, 3) := by decide +kernel
theorem dX0_findStarts_18 : decode cX0_findStarts 18 = .ok (.if_icmp .ge 65, 3) := by decide +kernel
theorem dX0_findStarts_21 : decode cX0_findStarts 21 = .ok (.aload_n 1, 1) := by decide +kernel
theorem dX0_findStarts_22 : decode cX0_findStarts 22 = .ok (.iload_n 3, 1) := by decide +kernel
theorem dX0_findStarts_23 : decode cX0_findStarts 23 = .ok (.invokevirtual 78, 3) := by decide +kernel
theorem dX0_findStarts_26 : decode cX0_findStarts 26 = .ok (.astore 4, 2) := by decide +kernel
theorem dX0_findStarts_28 : decode cX0_findStarts 28 = .ok (.aload 4, 2) := by decide +kernel
theorem dX0_findStarts_30 : decode cX0_findStarts 30 = .ok (.ifnull 47, 3) := by decide +kernel
theorem dX0_findStarts_33 : decode cX0_findStarts 33 = .ok (.aload 4, 2) := by decide +kernel
theorem dX0_findStarts_35 : decode cX0_findStarts 35 = .ok (.getfield 82, 3) := by decide +kernel
theorem dX0_findStarts_38 : decode cX0_findStarts 38 = .ok (.ifCond .ne 39, 3) := by decide +kernel
theorem dX0_findStarts_41 : decode cX0_findStarts 41 = .ok (.aload_n 0, 1) := by decide +kernel
theorem dX0_findStarts_42 : decode cX0_findStarts 42 = .ok (.aload 4, 2) := by decide +kernel
theorem dX0_findStarts_44 : decode cX0_findStarts 44 = .ok (.getfield 88, 3) := by decide +kernel
theorem dX0_findStarts_47 : decode cX0_findStarts 47 = .ok (.iload_n 2, 1) := by decide +kernel
theorem dX0_findStarts_48 : decode cX0_findStarts 48 = .ok (.iaload, 1) := by decide +kernel
theorem dX0_findStarts_49 : decode cX0_findStarts 49 = .ok (.invokevirtual 71, 3) := by decide +kernel
theorem dX0_findStarts_52 : decode cX0_findStarts 52 = .ok (.aload 4, 2) := by decide +kernel
theorem dX0_findStarts_54 : decode cX0_findStarts 54 = .ok (.getfield 91, 3) := by decide +kernel
theorem dX0_findStarts_57 : decode cX0_findStarts 57 = .ok (.iload_n 2, 1) := by decide +kernel
theorem dX0_findStarts_58 : decode cX0_findStarts 58 = .ok (.iaload, 1) := by decide +kernel
theorem dX0_findStarts_59 : decode cX0_findStarts 59 = .ok (.ldc 94, 2) := by decide +kernel
theorem dX0_findStarts_61 : decode cX0_findStarts 61 = .ok (.if_icmp .ge 16, 3) := by decide +kernel
theorem dX0_findStarts_64 : decode cX0_findStarts 64 = .ok (.aload_n 0, 1) := by decide +kernel
theorem dX0_findStarts_65 : decode cX0_findStarts 65 = .ok (.aload 4, 2) := by decide +kernel
theorem dX0_findStarts_67 : decode cX0_findStarts 67 = .ok (.getfield 91, 3) := by decide +kernel
theorem dX0_findStarts_70 : decode cX0_findStarts 70 = .ok (.iload_n 2, 1) := by decide +kernel
theorem dX0_findStarts_71 : decode cX0_findStarts 71 = .ok (.iaload, 1) := by decide +kernel
theorem dX0_findStarts_72 : decode cX0_findStarts 72 = .ok (.iconst 1, 1) := by decide +kernel
theorem dX0_findStarts_73 : decode cX0_findStarts 73 = .ok (.iadd, 1) := by decide +kernel
theorem dX0_findStarts_74 : decode cX0_findStarts 74 = .ok (.invokevirtual 71, 3) := by decide +kernel
theorem dX0_findStarts_77 : decode cX0_findStarts 77 = .ok (.iinc 3 1, 3) := by decide +kernel
theorem dX0_findStarts_80 : decode cX0_findStarts 80 = .ok (.goto (-67), 3) := by decide +kernel
theorem dX0_findStarts_83 : decode cX0_findStarts 83 = .ok (.iconst 0, 1) := by decide +kernel
theorem dX0_findStarts_84 : decode cX0_findStarts 84 = .ok (.istore_n 3, 1) := by decide +kernel
theorem dX0_findStarts_85 : decode cX0_findStarts 85 = .ok (.iload_n 3, 1) := by decide +kernel
theorem dX0_findStarts_86 : decode cX0_findStarts 86 = .ok (.aload_n 0, 1) := by decide +kernel
theorem dX0_findStarts_87 : decode cX0_findStarts 87 = .ok (.getfield 31, 3) := by decide +kernel
theorem dX0_findStarts_90 : decode cX0_findStarts 90 = .ok (.if_icmp .ge 26, 3) := by decide +kernel
theorem dX0_findStarts_93 : decode cX0_findStarts 93 = .ok (.aload_n 0, 1) := by decide +kernel
theorem dX0_findStarts_94 : decode cX0_findStarts 94 = .ok (.getfield 28, 3) := by decide +kernel
theorem dX0_findStarts_97 : decode cX0_findStarts 97 = .ok (.iload_n 3, 1) := by decide +kernel
theorem dX0_findStarts_98 : decode cX0_findStarts 98 = .ok (.aload_n 1, 1) := by decide +kernel
theorem dX0_findStarts_99 : decode cX0_findStarts 99 = .ok (.iload_n 2, 1) := by decide +kernel
theorem dX0_findStarts_100 : decode cX0_findStarts 100 = .ok (.aload_n 0, 1) := by decide +kernel
theorem dX0_findStarts_101 : decode cX0_findStarts 101 = .ok (.getfield 25, 3) := by decide +kernel
theorem dX0_findStarts_104 : decode cX0_findStarts 104 = .ok (.iload_n 3, 1) := by decide +kernel
theorem dX0_findStarts_105 : decode cX0_findStarts 105 = .ok (.iaload, 1) := by decide +kernel
theorem dX0_findStarts_106 : decode cX0_findStarts 106 = .ok (.invokevirtual 95, 3) := by decide +kernel
theorem dX0_findStarts_109 : decode cX0_findStarts 109 = .ok (.iastore, 1) := by decide +kernel
theorem dX0_findStarts_110 : decode cX0_findStarts 110 = .ok (.iinc 3 1, 3) := by decide +kernel
theorem dX0_findStarts_113 : decode cX0_findStarts 113 = .ok (.goto (-28), 3) := by decide +kernel
theorem dX0_findStarts_116 : decode cX0_findStarts 116 = .ok (.return_, 1) := by decide +kernel
theorem dX0_addStart_0 : decode cX0_addStart 0 = .ok (.aload_n 0, 1) := by decide +kernel
theorem dX0_addStart_1 : decode cX0_addStart 1 = .ok (.getfield 31, 3) := by decide +kernel
theorem dX0_addStart_4 : decode cX0_addStart 4 = .ok (.istore_n 2, 1) := by decide +kernel
theorem dX0_addStart_5 : decode cX0_addStart 5 = .ok (.iload_n 2, 1) := by decide +kernel
theorem dX0_addStart_6 : decode cX0_addStart 6 = .ok (.ifCond .le 21, 3) := by decide +kernel
theorem dX0_addStart_9 : decode cX0_addStart 9 = .ok (.aload_n 0, 1) := by decide +kernel
theorem dX0_addStart_10 : decode cX0_addStart 10 = .ok (.getfield 25, 3) := by decide +kernel
theorem dX0_addStart_13 : decode cX0_addStart 13 = .ok (.iload_n 2, 1) := by decide +kernel
theorem dX0_addStart_14 : decode cX0_addStart 14 = .ok (.iconst 1, 1) := by decide +kernel
theorem dX0_addStart_15 : decode cX0_addStart 15 = .ok (.isub, 1) := by decide +kernel
theorem dX0_addStart_16 : decode cX0_addStart 16 = .ok (.iaload, 1) := by decide +kernel
theorem dX0_addStart_17 : decode cX0_addStart 17 = .ok (.iload_n 1, 1) := by decide +kernel
theorem dX0_addStart_18 : decode cX0_addStart 18 = .ok (.if_icmp .le 9, 3) := by decide +kernel
theorem dX0_addStart_21 : decode cX0_addStart 21 = .ok (.iinc 2 (-1), 3) := by decide +kernel
theorem dX0_addStart_24 : decode cX0_addStart 24 = .ok (.goto (-19), 3) := by decide +kernel
theorem dX0_addStart_27 : decode cX0_addStart 27 = .ok (.iload_n 2, 1) := by decide +kernel
theorem dX0_addStart_28 : decode cX0_addStart 28 = .ok (.ifCond .le 15, 3) := by decide +kernel
theorem dX0_addStart_31 : decode cX0_addStart 31 = .ok (.aload_n 0, 1) := by decide +kernel
theorem dX0_addStart_32 : decode cX0_addStart 32 = .ok (.getfield 25, 3) := by decide +kernel
theorem dX0_addStart_35 : decode cX0_addStart 35 = .ok (.iload_n 2, 1) := by decide +kernel
theorem dX0_addStart_36 : decode cX0_addStart 36 = .ok (.iconst 1, 1) := by decide +kernel
theorem dX0_addStart_37 : decode cX0_addStart 37 = .ok (.isub, 1) := by decide +kernel
theorem dX0_addStart_38 : decode cX0_addStart 38 = .ok (.iaload, 1) := by decide +kernel
theorem dX0_addStart_39 : decode cX0_addStart 39 = .ok (.iload_n 1, 1) := by decide +kernel
theorem dX0_addStart_40 : decode cX0_addStart 40 = .ok (.if_icmp .eq 12, 3) := by decide +kernel
theorem dX0_addStart_43 : decode cX0_addStart 43 = .ok (.aload_n 0, 1) := by decide +kernel
theorem dX0_addStart_44 : decode cX0_addStart 44 = .ok (.getfield 31, 3) := by decide +kernel
theorem dX0_addStart_47 : decode cX0_addStart 47 = .ok (.bipush 17, 2) := by decide +kernel
theorem dX0_addStart_49 : decode cX0_addStart 49 = .ok (.if_icmp .lt 4, 3) := by decide +kernel
theorem dX0_addStart_52 : decode cX0_addStart 52 = .ok (.return_, 1) := by decide +kernel
theorem dX0_addStart_53 : decode cX0_addStart 53 = .ok (.aload_n 0, 1) := by decide +kernel
theorem dX0_addStart_54 : decode cX0_addStart 54 = .ok (.getfield 31, 3) := by decide +kernel
theorem dX0_addStart_57 : decode cX0_addStart 57 = .ok (.istore_n 3, 1) := by decide +kernel
theorem dX0_addStart_58 : decode cX0_addStart 58 = .ok (.iload_n 3, 1) := by decide +kernel
theorem dX0_addStart_59 : decode cX0_addStart 59 = .ok (.iload_n 2, 1) := by decide +kernel
theorem dX0_addStart_60 : decode cX0_addStart 60 = .ok (.if_icmp .le 23, 3) := by decide +kernel
theorem dX0_addStart_63 : decode cX0_addStart 63 = .ok (.aload_n 0, 1) := by decide +kernel
theorem dX0_addStart_64 : decode cX0_addStart 64 = .ok (.getfield 25, 3) := by decide +kernel
theorem dX0_addStart_67 : decode cX0_addStart 67 = .ok (.iload_n 3, 1) := by decide +kernel
theorem dX0_addStart_68 : decode cX0_addStart 68 = .ok (.aload_n 0, 1) := by decide +kernel
theorem dX0_addStart_69 : decode cX0_addStart 69 = .ok (.getfield 25, 3) := by decide +kernel
theorem dX0_addStart_72 : decode cX0_addStart 72 = .ok (.iload_n 3, 1) := by decide +kernel
theorem dX0_addStart_73 : decode cX0_addStart 73 = .ok (.iconst 1, 1) := by decide +kernel
theorem dX0_addStart_74 : decode cX0_addStart 74 = .ok (.isub, 1) := by decide +kernel
theorem dX0_addStart_75 : decode cX0_addStart 75 = .ok (.iaload, 1) := by decide +kernel
theorem dX0_addStart_76 : decode cX0_addStart 76 = .ok (.iastore, 1) := by decide +kernel
theorem dX0_addStart_77 : decode cX0_addStart 77 = .ok (.iinc 3 (-1), 3) := by decide +kernel
theorem dX0_addStart_80 : decode cX0_addStart 80 = .ok (.goto (-22), 3) := by decide +kernel
theorem dX0_addStart_83 : decode cX0_addStart 83 = .ok (.aload_n 0, 1) := by decide +kernel
theorem dX0_addStart_84 : decode cX0_addStart 84 = .ok (.getfield 25, 3) := by decide +kernel
theorem dX0_addStart_87 : decode cX0_addStart 87 = .ok (.iload_n 2, 1) := by decide +kernel
theorem dX0_addStart_88 : decode cX0_addStart 88 = .ok (.iload_n 1, 1) := by decide +kernel
theorem dX0_addStart_89 : decode cX0_addStart 89 = .ok (.iastore, 1) := by decide +kernel
theorem dX0_addStart_90 : decode cX0_addStart 90 = .ok (.aload_n 0, 1) := by decide +kernel
theorem dX0_addStart_91 : decode cX0_addStart 91 = .ok (.dup, 1) := by decide +kernel
theorem dX0_addStart_92 : decode cX0_addStart 92 = .ok (.getfield 31, 3) := by decide +kernel
theorem dX0_addStart_95 : decode cX0_addStart 95 = .ok (.iconst 1, 1) := by decide +kernel
theorem dX0_addStart_96 : decode cX0_addStart 96 = .ok (.iadd, 1) := by decide +kernel
theorem dX0_addStart_97 : decode cX0_addStart 97 = .ok (.putfield 31, 3) := by decide +kernel
theorem dX0_addStart_100 : decode cX0_addStart 100 = .ok (.return_, 1) := by decide +kernel
theorem dX1_init_0 : decode cX1_init 0 = .ok (.aload_n 0, 1) := by decide +kernel
theorem dX1_init_1 : decode cX1_init 1 = .ok (.invokespecial 3, 3) := by decide +kernel
theorem dX1_init_4 : decode cX1_init 4 = .ok (.aload_n 0, 1) := by decide +kernel
theorem dX1_init_5 : decode cX1_init 5 = .ok (.new 9, 3) := by decide +kernel
theorem dX1_init_8 : decode cX1_init 8 = .ok (.dup, 1) := by decide +kernel
theorem dX1_init_9 : decode cX1_init 9 = .ok (.invokespecial 11, 3) := by decide +kernel
theorem dX1_init_12 : decode cX1_init 12 = .ok (.putfield 12, 3) := by decide +kernel
theorem dX1_init_15 : decode cX1_init 15 = .ok (.aload_n 0, 1) := by decide +kernel
theorem dX1_init_16 : decode cX1_init 16 = .ok (.bipush 8, 2) := by decide +kernel
theorem dX1_init_18 : decode cX1_init 18 = .ok (.newarray .int, 2) := by decide +kernel
theorem dX1_init_20 : decode cX1_init 20 = .ok (.putfield 18, 3) := by decide +kernel
theorem dX1_init_23 : decode cX1_init 23 = .ok (.aload_n 0, 1) := by decide +kernel
theorem dX1_init_24 : decode cX1_init 24 = .ok (.bipush 8, 2) := by decide +kernel
theorem dX1_init_26 : decode cX1_init 26 = .ok (.anewarray 22, 3) := by decide +kernel
theorem dX1_init_29 : decode cX1_init 29 = .ok (.putfield 24, 3) := by decide +kernel
theorem dX1_init_32 : decode cX1_init 32 = .ok (.aload_n 0, 1) := by decide +kernel
theorem dX1_init_33 : decode cX1_init 33 = .ok (.bipush 8, 2) := by decide +kernel
theorem dX1_init_35 : decode cX1_init 35 = .ok (.newarray .int, 2) := by decide +kernel
theorem dX1_init_37 : decode cX1_init 37 = .ok (.putfield 28, 3) := by decide +kernel
theorem dX1_init_40 : decode cX1_init 40 = .ok (.aload_n 0, 1) := by decide +kernel
theorem dX1_init_41 : decode cX1_init 41 = .ok (.iconst 0, 1) := by decide +kernel
theorem dX1_init_42 : decode cX1_init 42 = .ok (.putfield 31, 3) := by decide +kernel
theorem dX1_init_45 : decode cX1_init 45 = .ok (.aload_n 0, 1) := by decide +kernel
theorem dX1_init_46 : decode cX1_init 46 = .ok (.iconst 0, 1) := by decide +kernel
theorem dX1_init_47 : decode cX1_init 47 = .ok (.putfield 35, 3) := by decide +kernel
theorem dX1_init_50 : decode cX1_init 50 = .ok (.aload_n 0, 1) := by decide +kernel
theorem dX1_init_51 : decode cX1_init 51 = .ok (.iconst 0, 1) := by decide +kernel
theorem dX1_init_52 : decode cX1_init 52 = .ok (.putfield 38, 3) := by decide +kernel
theorem dX1_init_55 : decode cX1_init 55 = .ok (.aload_n 0, 1) := by decide +kernel
theorem dX1_init_56 : decode cX1_init 56 = .ok (.aload_n 1, 1) := by decide +kernel
theorem dX1_init_57 : decode cX1_init 57 = .ok (.putfield 42, 3) := by decide +kernel
theorem dX1_init_60 : decode cX1_init 60 = .ok (.aload_n 0, 1) := by decide +kernel
theorem dX1_init_61 : decode cX1_init 61 = .ok (.iload_n 2, 1) := by decide +kernel
theorem dX1_init_62 : decode cX1_init 62 = .ok (.putfield 46, 3) := by decide +kernel
theorem dX1_init_65 : decode cX1_init 65 = .ok (.aload_n 0, 1) := by decide +kernel
theorem dX1_init_66 : decode cX1_init 66 = .ok (.iload_n 3, 1) := by decide +kernel
theorem dX1_init_67 : decode cX1_init 67 = .ok (.putfield 49, 3) := by decide +kernel
theorem dX1_init_70 : decode cX1_init 70 = .ok (.return_, 1) := by decide +kernel
theorem dX1_hasPlace_0 : decode cX1_hasPlace 0 = .ok (.iload_n 1, 1) := by decide +kernel
theorem dX1_hasPlace_1 : decode cX1_hasPlace 1 = .ok (.ifCond .lt 15, 3) := by decide +kernel
theorem dX1_hasPlace_4 : decode cX1_hasPlace 4 = .ok (.iload_n 1, 1) := by decide +kernel
theorem dX1_hasPlace_5 : decode cX1_hasPlace 5 = .ok (.aload_n 0, 1) := by decide +kernel
theorem dX1_hasPlace_6 : decode cX1_hasPlace 6 = .ok (.getfield 49, 3) := by decide +kernel
theorem dX1_hasPlace_9 : decode cX1_hasPlace 9 = .ok (.if_icmp .ge 7, 3) := by decide +kernel
theorem dX1_hasPlace_12 : decode cX1_hasPlace 12 = .ok (.iconst 1, 1) := by decide +kernel
theorem dX1_hasPlace_13 : decode cX1_hasPlace 13 = .ok (.goto 4, 3) := by decide +kernel
theorem dX1_hasPlace_16 : decode cX1_hasPlace 16 = .ok (.iconst 0, 1) := by decide +kernel
theorem dX1_hasPlace_17 : decode cX1_hasPlace 17 = .ok (.ireturn, 1) := by decide +kernel
theorem dX1_laidAt_0 : decode cX1_laidAt 0 = .ok (.iload_n 1, 1) := by decide +kernel
theorem dX1_laidAt_1 : decode cX1_laidAt 1 = .ok (.ifCond .lt 20, 3) := by decide +kernel
theorem dX1_laidAt_4 : decode cX1_laidAt 4 = .ok (.iload_n 1, 1) := by decide +kernel
theorem dX1_laidAt_5 : decode cX1_laidAt 5 = .ok (.aload_n 0, 1) := by decide +kernel
theorem dX1_laidAt_6 : decode cX1_laidAt 6 = .ok (.getfield 31, 3) := by decide +kernel
theorem dX1_laidAt_9 : decode cX1_laidAt 9 = .ok (.if_icmp .ge 12, 3) := by decide +kernel
theorem dX1_laidAt_12 : decode cX1_laidAt 12 = .ok (.aload_n 0, 1) := by decide +kernel
theorem dX1_laidAt_13 : decode cX1_laidAt 13 = .ok (.getfield 24, 3) := by decide +kernel
theorem dX1_laidAt_16 : decode cX1_laidAt 16 = .ok (.iload_n 1, 1) := by decide +kernel
theorem dX1_laidAt_17 : decode cX1_laidAt 17 = .ok (.aaload, 1) := by decide +kernel
theorem dX1_laidAt_18 : decode cX1_laidAt 18 = .ok (.goto 4, 3) := by decide +kernel
theorem dX1_laidAt_21 : decode cX1_laidAt 21 = .ok (.aconst_null, 1) := by decide +kernel
theorem dX1_laidAt_22 : decode cX1_laidAt 22 = .ok (.areturn, 1) := by decide +kernel
theorem dX1_numberAt_0 : decode cX1_numberAt 0 = .ok (.aload_n 0, 1) := by decide +kernel
theorem dX1_numberAt_1 : decode cX1_numberAt 1 = .ok (.iload_n 1, 1) := by decide +kernel
theorem dX1_numberAt_2 : decode cX1_numberAt 2 = .ok (.invokevirtual 52, 3) := by decide +kernel
theorem dX1_numberAt_5 : decode cX1_numberAt 5 = .ok (.astore_n 2, 1) := by decide +kernel
theorem dX1_numberAt_6 : decode cX1_numberAt 6 = .ok (.aload_n 2, 1) := by decide +kernel
theorem dX1_numberAt_7 : decode cX1_numberAt 7 = .ok (.ifnonnull 7, 3) := by decide +kernel
theorem dX1_numberAt_10 : decode cX1_numberAt 10 = .ok (.iconst (-1), 1) := by decide +kernel
theorem dX1_numberAt_11 : decode cX1_numberAt 11 = .ok (.goto 7, 3) := by decide +kernel
theorem dX1_numberAt_14 : decode cX1_numberAt 14 = .ok (.aload_n 2, 1) := by decide +kernel
theorem dX1_numberAt_15 : decode cX1_numberAt 15 = .ok (.getfield 56, 3) := by decide +kernel
theorem dX1_numberAt_18 : decode cX1_numberAt 18 = .ok (.ireturn, 1) := by decide +kernel
theorem dX1_indexOf_0 : decode cX1_indexOf 0 = .ok (.iconst 0, 1) := by decide +kernel
theorem dX1_indexOf_1 : decode cX1_indexOf 1 = .ok (.istore_n 2, 1) := by decide +kernel
theorem dX1_indexOf_2 : decode cX1_indexOf 2 = .ok (.iload_n 2, 1) := by decide +kernel
theorem dX1_indexOf_3 : decode cX1_indexOf 3 = .ok (.aload_n 0, 1) := by decide +kernel
theorem dX1_indexOf_4 : decode cX1_indexOf 4 = .ok (.getfield 31, 3) := by decide +kernel
theorem dX1_indexOf_7 : decode cX1_indexOf 7 = .ok (.if_icmp .ge 27, 3) := by decide +kernel
theorem dX1_indexOf_10 : decode cX1_indexOf 10 = .ok (.aload_n 0, 1) := by decide +kernel
theorem dX1_indexOf_11 : decode cX1_indexOf 11 = .ok (.getfield 24, 3) := by decide +kernel
theorem dX1_indexOf_14 : decode cX1_indexOf 14 = .ok (.iload_n 2, 1) := by decide +kernel
theorem dX1_indexOf_15 : decode cX1_indexOf 15 = .ok (.aaload, 1) := by decide +kernel
theorem dX1_indexOf_16 : decode cX1_indexOf 16 = .ok (.getfield 56, 3) := by decide +kernel
theorem dX1_indexOf_19 : decode cX1_indexOf 19 = .ok (.aload_n 1, 1) := by decide +kernel
theorem dX1_indexOf_20 : decode cX1_indexOf 20 = .ok (.getfield 56, 3) := by decide +kernel
theorem dX1_indexOf_23 : decode cX1_indexOf 23 = .ok (.if_icmp .ne 5, 3) := by decide +kernel
theorem dX1_indexOf_26 : decode cX1_indexOf 26 = .ok (.iload_n 2, 1) := by decide +kernel
theorem dX1_indexOf_27 : decode cX1_indexOf 27 = .ok (.ireturn, 1) := by decide +kernel
theorem dX1_indexOf_28 : decode cX1_indexOf 28 = .ok (.iinc 2 1, 3) := by decide +kernel
theorem dX1_indexOf_31 : decode cX1_indexOf 31 = .ok (.goto (-29), 3) := by decide +kernel
theorem dX1_indexOf_34 : decode cX1_indexOf 34 = .ok (.iconst (-1), 1) := by decide +kernel
theorem dX1_indexOf_35 : decode cX1_indexOf 35 = .ok (.ireturn, 1) := by decide +kernel
theorem dX1_hasLaidSame_0 : decode cX1_hasLaidSame 0 = .ok (.iconst 0, 1) := by decide +kernel
theorem dX1_hasLaidSame_1 : decode cX1_hasLaidSame 1 = .ok (.istore_n 2, 1) := by decide +kernel
theorem dX1_hasLaidSame_2 : decode cX1_hasLaidSame 2 = .ok (.iload_n 2, 1) := by decide +kernel
theorem dX1_hasLaidSame_3 : decode cX1_hasLaidSame 3 = .ok (.aload_n 0, 1) := by decide +kernel
theorem dX1_hasLaidSame_4 : decode cX1_hasLaidSame 4 = .ok (.getfield 31, 3) := by decide +kernel
theorem dX1_hasLaidSame_7 : decode cX1_hasLaidSame 7 = .ok (.if_icmp .ge 40, 3) := by decide +kernel
theorem dX1_hasLaidSame_10 : decode cX1_hasLaidSame 10 = .ok (.aload_n 0, 1) := by decide +kernel
theorem dX1_hasLaidSame_11 : decode cX1_hasLaidSame 11 = .ok (.getfield 24, 3) := by decide +kernel
theorem dX1_hasLaidSame_14 : decode cX1_hasLaidSame 14 = .ok (.iload_n 2, 1) := by decide +kernel
theorem dX1_hasLaidSame_15 : decode cX1_hasLaidSame 15 = .ok (.aaload, 1) := by decide +kernel
theorem dX1_hasLaidSame_16 : decode cX1_hasLaidSame 16 = .ok (.getfield 57, 3) := by decide +kernel
theorem dX1_hasLaidSame_19 : decode cX1_hasLaidSame 19 = .ok (.aload_n 1, 1) := by decide +kernel
theorem dX1_hasLaidSame_20 : decode cX1_hasLaidSame 20 = .ok (.getfield 57, 3) := by decide +kernel
theorem dX1_hasLaidSame_23 : decode cX1_hasLaidSame 23 = .ok (.if_icmp .ne 18, 3) := by decide +kernel
theorem dX1_hasLaidSame_26 : decode cX1_hasLaidSame 26 = .ok (.aload_n 0, 1) := by decide +kernel
theorem dX1_hasLaidSame_27 : decode cX1_hasLaidSame 27 = .ok (.getfield 24, 3) := by decide +kernel
theorem dX1_hasLaidSame_30 : decode cX1_hasLaidSame 30 = .ok (.iload_n 2, 1) := by decide +kernel
theorem dX1_hasLaidSame_31 : decode cX1_hasLaidSame 31 = .ok (.aaload, 1) := by decide +kernel
theorem dX1_hasLaidSame_32 : decode cX1_hasLaidSame 32 = .ok (.aload_n 1, 1) := by decide +kernel
theorem dX1_hasLaidSame_33 : decode cX1_hasLaidSame 33 = .ok (.invokevirtual 60, 3) := by decide +kernel
theorem dX1_hasLaidSame_36 : decode cX1_hasLaidSame 36 = .ok (.ifCond .eq 5, 3) := by decide +kernel
theorem dX1_hasLaidSame_39 : decode cX1_hasLaidSame 39 = .ok (.iconst 1, 1) := by decide +kernel
theorem dX1_hasLaidSame_40 : decode cX1_hasLaidSame 40 = .ok (.ireturn, 1) := by decide +kernel
theorem dX1_hasLaidSame_41 : decode cX1_hasLaidSame 41 = .ok (.iinc 2 1, 3) := by decide +kernel
theorem dX1_hasLaidSame_44 : decode cX1_hasLaidSame 44 = .ok (.goto (-42), 3) := by decide +kernel
theorem dX1_hasLaidSame_47 : decode cX1_hasLaidSame 47 = .ok (.iconst 0, 1) := by decide +kernel
theorem dX1_hasLaidSame_48 : decode cX1_hasLaidSame 48 = .ok (.ireturn, 1) := by decide +kernel
theorem dX1_putLaid_0 : decode cX1_putLaid 0 = .ok (.aload_n 0, 1) := by decide +kernel
theorem dX1_putLaid_1 : decode cX1_putLaid 1 = .ok (.getfield 31, 3) := by decide +kernel
theorem dX1_putLaid_4 : decode cX1_putLaid 4 = .ok (.bipush 8, 2) := by decide +kernel
theorem dX1_putLaid_6 : decode cX1_putLaid 6 = .ok (.if_icmp .lt 5, 3) := by decide +kernel
theorem dX1_putLaid_9 : decode cX1_putLaid 9 = .ok (.iconst 0, 1) := by decide +kernel
theorem dX1_putLaid_10 : decode cX1_putLaid 10 = .ok (.ireturn, 1) := by decide +kernel
theorem dX1_putLaid_11 : decode cX1_putLaid 11 = .ok (.aload_n 0, 1) := by decide +kernel
theorem dX1_putLaid_12 : decode cX1_putLaid 12 = .ok (.getfield 31, 3) := by decide +kernel
theorem dX1_putLaid_15 : decode cX1_putLaid 15 = .ok (.istore_n 2, 1) := by decide +kernel
theorem dX1_putLaid_16 : decode cX1_putLaid 16 = .ok (.iload_n 2, 1) := by decide +kernel
theorem dX1_putLaid_17 : decode cX1_putLaid 17 = .ok (.ifCond .le 41, 3) := by decide +kernel
theorem dX1_putLaid_20 : decode cX1_putLaid 20 = .ok (.aload_n 0, 1) := by decide +kernel
theorem dX1_putLaid_21 : decode cX1_putLaid 21 = .ok (.getfield 24, 3) := by decide +kernel
theorem dX1_putLaid_24 : decode cX1_putLaid 24 = .ok (.iload_n 2, 1) := by decide +kernel
theorem dX1_putLaid_25 : decode cX1_putLaid 25 = .ok (.iconst 1, 1) := by decide +kernel
theorem dX1_putLaid_26 : decode cX1_putLaid 26 = .ok (.isub, 1) := by decide +kernel
theorem dX1_putLaid_27 : decode cX1_putLaid 27 = .ok (.aaload, 1) := by decide +kernel
theorem dX1_putLaid_28 : decode cX1_putLaid 28 = .ok (.getfield 56, 3) := by decide +kernel
theorem dX1_putLaid_31 : decode cX1_putLaid 31 = .ok (.aload_n 1, 1) := by decide +kernel
theorem dX1_putLaid_32 : decode cX1_putLaid 32 = .ok (.getfield 56, 3) := by decide +kernel
theorem dX1_putLaid_35 : decode cX1_putLaid 35 = .ok (.if_icmp .le 23, 3) := by decide +kernel
theorem dX1_putLaid_38 : decode cX1_putLaid 38 = .ok (.aload_n 0, 1) := by decide +kernel
theorem dX1_putLaid_39 : decode cX1_putLaid 39 = .ok (.getfield 24, 3) := by decide +kernel
theorem dX1_putLaid_42 : decode cX1_putLaid 42 = .ok (.iload_n 2, 1) := by decide +kernel
theorem dX1_putLaid_43 : decode cX1_putLaid 43 = .ok (.aload_n 0, 1) := by decide +kernel
theorem dX1_putLaid_44 : decode cX1_putLaid 44 = .ok (.getfield 24, 3) := by decide +kernel
theorem dX1_putLaid_47 : decode cX1_putLaid 47 = .ok (.iload_n 2, 1) := by decide +kernel
theorem dX1_putLaid_48 : decode cX1_putLaid 48 = .ok (.iconst 1, 1) := by decide +kernel
theorem dX1_putLaid_49 : decode cX1_putLaid 49 = .ok (.isub, 1) := by decide +kernel
theorem dX1_putLaid_50 : decode cX1_putLaid 50 = .ok (.aaload, 1) := by decide +kernel
theorem dX1_putLaid_51 : decode cX1_putLaid 51 = .ok (.aastore, 1) := by decide +kernel
theorem dX1_putLaid_52 : decode cX1_putLaid 52 = .ok (.iinc 2 (-1), 3) := by decide +kernel
theorem dX1_putLaid_55 : decode cX1_putLaid 55 = .ok (.goto (-39), 3) := by decide +kernel
theorem dX1_putLaid_58 : decode cX1_putLaid 58 = .ok (.aload_n 0, 1) := by decide +kernel
theorem dX1_putLaid_59 : decode cX1_putLaid 59 = .ok (.getfield 24, 3) := by decide +kernel
theorem dX1_putLaid_62 : decode cX1_putLaid 62 = .ok (.iload_n 2, 1) := by decide +kernel
theorem dX1_putLaid_63 : decode cX1_putLaid 63 = .ok (.aload_n 1, 1) := by decide +kernel
theorem dX1_putLaid_64 : decode cX1_putLaid 64 = .ok (.aastore, 1) := by decide +kernel
theorem dX1_putLaid_65 : decode cX1_putLaid 65 = .ok (.aload_n 0, 1) := by decide +kernel
theorem dX1_putLaid_66 : decode cX1_putLaid 66 = .ok (.dup, 1) := by decide +kernel
theorem dX1_putLaid_67 : decode cX1_putLaid 67 = .ok (.getfield 31, 3) := by decide +kernel
theorem dX1_putLaid_70 : decode cX1_putLaid 70 = .ok (.iconst 1, 1) := by decide +kernel
theorem dX1_putLaid_71 : decode cX1_putLaid 71 = .ok (.iadd, 1) := by decide +kernel
theorem dX1_putLaid_72 : decode cX1_putLaid 72 = .ok (.putfield 31, 3) := by decide +kernel
theorem dX1_putLaid_75 : decode cX1_putLaid 75 = .ok (.aload_n 0, 1) := by decide +kernel
theorem dX1_putLaid_76 : decode cX1_putLaid 76 = .ok (.invokevirtual 64, 3) := by decide +kernel
theorem dX1_putLaid_79 : decode cX1_putLaid 79 = .ok (.iconst 1, 1) := by decide +kernel
theorem dX1_putLaid_80 : decode cX1_putLaid 80 = .ok (.ireturn, 1) := by decide +kernel
theorem dX1_dropLaid_0 : decode cX1_dropLaid 0 = .ok (.iconst 0, 1) := by decide +kernel
theorem dX1_dropLaid_1 : decode cX1_dropLaid 1 = .ok (.istore_n 2, 1) := by decide +kernel
theorem dX1_dropLaid_2 : decode cX1_dropLaid 2 = .ok (.iconst 0, 1) := by decide +kernel
theorem dX1_dropLaid_3 : decode cX1_dropLaid 3 = .ok (.istore_n 3, 1) := by decide +kernel
theorem dX1_dropLaid_4 : decode cX1_dropLaid 4 = .ok (.iload_n 3, 1) := by decide +kernel
theorem dX1_dropLaid_5 : decode cX1_dropLaid 5 = .ok (.aload_n 0, 1) := by decide +kernel
theorem dX1_dropLaid_6 : decode cX1_dropLaid 6 = .ok (.getfield 31, 3) := by decide +kernel
theorem dX1_dropLaid_9 : decode cX1_dropLaid 9 = .ok (.if_icmp .ge 40, 3) := by decide +kernel
theorem dX1_dropLaid_12 : decode cX1_dropLaid 12 = .ok (.aload_n 0, 1) := by decide +kernel
theorem dX1_dropLaid_13 : decode cX1_dropLaid 13 = .ok (.getfield 24, 3) := by decide +kernel
theorem dX1_dropLaid_16 : decode cX1_dropLaid 16 = .ok (.iload_n 3, 1) := by decide +kernel
theorem dX1_dropLaid_17 : decode cX1_dropLaid 17 = .ok (.aaload, 1) := by decide +kernel
theorem dX1_dropLaid_18 : decode cX1_dropLaid 18 = .ok (.getfield 56, 3) := by decide +kernel
theorem dX1_dropLaid_21 : decode cX1_dropLaid 21 = .ok (.aload_n 1, 1) := by decide +kernel
theorem dX1_dropLaid_22 : decode cX1_dropLaid 22 = .ok (.getfield 56, 3) := by decide +kernel
theorem dX1_dropLaid_25 : decode cX1_dropLaid 25 = .ok (.if_icmp .eq 18, 3) := by decide +kernel
theorem dX1_dropLaid_28 : decode cX1_dropLaid 28 = .ok (.aload_n 0, 1) := by decide +kernel
theorem dX1_dropLaid_29 : decode cX1_dropLaid 29 = .ok (.getfield 24, 3) := by decide +kernel
theorem dX1_dropLaid_32 : decode cX1_dropLaid 32 = .ok (.iload_n 2, 1) := by decide +kernel
theorem dX1_dropLaid_33 : decode cX1_dropLaid 33 = .ok (.aload_n 0, 1) := by decide +kernel
theorem dX1_dropLaid_34 : decode cX1_dropLaid 34 = .ok (.getfield 24, 3) := by decide +kernel
theorem dX1_dropLaid_37 : decode cX1_dropLaid 37 = .ok (.iload_n 3, 1) := by decide +kernel
theorem dX1_dropLaid_38 : decode cX1_dropLaid 38 = .ok (.aaload, 1) := by decide +kernel
theorem dX1_dropLaid_39 : decode cX1_dropLaid 39 = .ok (.aastore, 1) := by decide +kernel
theorem dX1_dropLaid_40 : decode cX1_dropLaid 40 = .ok (.iinc 2 1, 3) := by decide +kernel
theorem dX1_dropLaid_43 : decode cX1_dropLaid 43 = .ok (.iinc 3 1, 3) := by decide +kernel
theorem dX1_dropLaid_46 : decode cX1_dropLaid 46 = .ok (.goto (-42), 3) := by decide +kernel
theorem dX1_dropLaid_49 : decode cX1_dropLaid 49 = .ok (.aload_n 0, 1) := by decide +kernel
theorem dX1_dropLaid_50 : decode cX1_dropLaid 50 = .ok (.iload_n 2, 1) := by decide +kernel
theorem dX1_dropLaid_51 : decode cX1_dropLaid 51 = .ok (.putfield 31, 3) := by decide +kernel
theorem dX1_dropLaid_54 : decode cX1_dropLaid 54 = .ok (.aload_n 0, 1) := by decide +kernel
theorem dX1_dropLaid_55 : decode cX1_dropLaid 55 = .ok (.invokevirtual 64, 3) := by decide +kernel
theorem dX1_dropLaid_58 : decode cX1_dropLaid 58 = .ok (.return_, 1) := by decide +kernel
theorem dX1_compareLaid_0 : decode cX1_compareLaid 0 = .ok (.aload_n 0, 1) := by decide +kernel
theorem dX1_compareLaid_1 : decode cX1_compareLaid 1 = .ok (.iconst 0, 1) := by decide +kernel
theorem dX1_compareLaid_2 : decode cX1_compareLaid 2 = .ok (.putfield 35, 3) := by decide +kernel
theorem dX1_compareLaid_5 : decode cX1_compareLaid 5 = .ok (.iconst 0, 1) := by decide +kernel
theorem dX1_compareLaid_6 : decode cX1_compareLaid 6 = .ok (.istore_n 1, 1) := by decide +kernel
theorem dX1_compareLaid_7 : decode cX1_compareLaid 7 = .ok (.iload_n 1, 1) := by decide +kernel
theorem dX1_compareLaid_8 : decode cX1_compareLaid 8 = .ok (.aload_n 0, 1) := by decide +kernel
theorem dX1_compareLaid_9 : decode cX1_compareLaid 9 = .ok (.getfield 31, 3) := by decide +kernel
theorem dX1_compareLaid_12 : decode cX1_compareLaid 12 = .ok (.if_icmp .ge 86, 3) := by decide +kernel
theorem dX1_compareLaid_15 : decode cX1_compareLaid 15 = .ok (.aload_n 0, 1) := by decide +kernel
theorem dX1_compareLaid_16 : decode cX1_compareLaid 16 = .ok (.getfield 28, 3) := by decide +kernel
theorem dX1_compareLaid_19 : decode cX1_compareLaid 19 = .ok (.iload_n 1, 1) := by decide +kernel
theorem dX1_compareLaid_20 : decode cX1_compareLaid 20 = .ok (.iconst 0, 1) := by decide +kernel
theorem dX1_compareLaid_21 : decode cX1_compareLaid 21 = .ok (.iastore, 1) := by decide +kernel
theorem dX1_compareLaid_22 : decode cX1_compareLaid 22 = .ok (.aload_n 0, 1) := by decide +kernel
theorem dX1_compareLaid_23 : decode cX1_compareLaid 23 = .ok (.getfield 24, 3) := by decide +kernel
theorem dX1_compareLaid_26 : decode cX1_compareLaid 26 = .ok (.iload_n 1, 1) := by decide +kernel
theorem dX1_compareLaid_27 : decode cX1_compareLaid 27 = .ok (.aaload, 1) := by decide +kernel
theorem dX1_compareLaid_28 : decode cX1_compareLaid 28 = .ok (.getfield 57, 3) := by decide +kernel
theorem dX1_compareLaid_31 : decode cX1_compareLaid 31 = .ok (.ifCond .ne 15, 3) := by decide +kernel
theorem dX1_compareLaid_34 : decode cX1_compareLaid 34 = .ok (.aload_n 0, 1) := by decide +kernel
theorem dX1_compareLaid_35 : decode cX1_compareLaid 35 = .ok (.dup, 1) := by decide +kernel
theorem dX1_compareLaid_36 : decode cX1_compareLaid 36 = .ok (.getfield 35, 3) := by decide +kernel
theorem dX1_compareLaid_39 : decode cX1_compareLaid 39 = .ok (.iconst 1, 1) := by decide +kernel
theorem dX1_compareLaid_40 : decode cX1_compareLaid 40 = .ok (.iload_n 1, 1) := by decide +kernel
theorem dX1_compareLaid_41 : decode cX1_compareLaid 41 = .ok (.ishl, 1) := by decide +kernel
theorem dX1_compareLaid_42 : decode cX1_compareLaid 42 = .ok (.ior, 1) := by decide +kernel
theorem dX1_compareLaid_43 : decode cX1_compareLaid 43 = .ok (.putfield 35, 3) := by decide +kernel
theorem dX1_compareLaid_46 : decode cX1_compareLaid 46 = .ok (.iconst 0, 1) := by decide +kernel
theorem dX1_compareLaid_47 : decode cX1_compareLaid 47 = .ok (.istore_n 2, 1) := by decide +kernel
theorem dX1_compareLaid_48 : decode cX1_compareLaid 48 = .ok (.iload_n 2, 1) := by decide +kernel
theorem dX1_compareLaid_49 : decode cX1_compareLaid 49 = .ok (.aload_n 0, 1) := by decide +kernel
theorem dX1_compareLaid_50 : decode cX1_compareLaid 50 = .ok (.getfield 31, 3) := by decide +kernel
theorem dX1_compareLaid_53 : decode cX1_compareLaid 53 = .ok (.if_icmp .ge 39, 3) := by decide +kernel
theorem dX1_compareLaid_56 : decode cX1_compareLaid 56 = .ok (.aload_n 0, 1) := by decide +kernel
theorem dX1_compareLaid_57 : decode cX1_compareLaid 57 = .ok (.getfield 24, 3) := by decide +kernel
theorem dX1_compareLaid_60 : decode cX1_compareLaid 60 = .ok (.iload_n 1, 1) := by decide +kernel
theorem dX1_compareLaid_61 : decode cX1_compareLaid 61 = .ok (.aaload, 1) := by decide +kernel
theorem dX1_compareLaid_62 : decode cX1_compareLaid 62 = .ok (.aload_n 0, 1) := by decide +kernel
theorem dX1_compareLaid_63 : decode cX1_compareLaid 63 = .ok (.getfield 24, 3) := by decide +kernel
theorem dX1_compareLaid_66 : decode cX1_compareLaid 66 = .ok (.iload_n 2, 1) := by decide +kernel
theorem dX1_compareLaid_67 : decode cX1_compareLaid 67 = .ok (.aaload, 1) := by decide +kernel
theorem dX1_compareLaid_68 : decode cX1_compareLaid 68 = .ok (.invokevirtual 67, 3) := by decide +kernel
theorem dX1_compareLaid_71 : decode cX1_compareLaid 71 = .ok (.ifCond .eq 15, 3) := by decide +kernel
theorem dX1_compareLaid_74 : decode cX1_compareLaid 74 = .ok (.aload_n 0, 1) := by decide +kernel
theorem dX1_compareLaid_75 : decode cX1_compareLaid 75 = .ok (.getfield 28, 3) := by decide +kernel
theorem dX1_compareLaid_78 : decode cX1_compareLaid 78 = .ok (.iload_n 1, 1) := by decide +kernel
theorem dX1_compareLaid_79 : decode cX1_compareLaid 79 = .ok (.dup2, 1) := by decide +kernel
theorem dX1_compareLaid_80 : decode cX1_compareLaid 80 = .ok (.iaload, 1) := by decide +kernel
theorem dX1_compareLaid_81 : decode cX1_compareLaid 81 = .ok (.iconst 1, 1) := by decide +kernel
theorem dX1_compareLaid_82 : decode cX1_compareLaid 82 = .ok (.iload_n 2, 1) := by decide +kernel
theorem dX1_compareLaid_83 : decode cX1_compareLaid 83 = .ok (.ishl, 1) := by decide +kernel
theorem dX1_compareLaid_84 : decode cX1_compareLaid 84 = .ok (.ior, 1) := by decide +kernel
theorem dX1_compareLaid_85 : decode cX1_compareLaid 85 = .ok (.iastore, 1) := by decide +kernel
theorem dX1_compareLaid_86 : decode cX1_compareLaid 86 = .ok (.iinc 2 1, 3) := by decide +kernel
theorem dX1_compareLaid_89 : decode cX1_compareLaid 89 = .ok (.goto (-41), 3) := by decide +kernel
theorem dX1_compareLaid_92 : decode cX1_compareLaid 92 = .ok (.iinc 1 1, 3) := by decide +kernel
theorem dX1_compareLaid_95 : decode cX1_compareLaid 95 = .ok (.goto (-88), 3) := by decide +kernel
theorem dX1_compareLaid_98 : decode cX1_compareLaid 98 = .ok (.aload_n 0, 1) := by decide +kernel
theorem dX1_compareLaid_99 : decode cX1_compareLaid 99 = .ok (.invokevirtual 70, 3) := by decide +kernel
theorem dX1_compareLaid_102 : decode cX1_compareLaid 102 = .ok (.aload_n 0, 1) := by decide +kernel
theorem dX1_compareLaid_103 : decode cX1_compareLaid 103 = .ok (.getfield 12, 3) := by decide +kernel
theorem dX1_compareLaid_106 : decode cX1_compareLaid 106 = .ok (.invokevirtual 73, 3) := by decide +kernel
theorem dX1_compareLaid_109 : decode cX1_compareLaid 109 = .ok (.return_, 1) := by decide +kernel
theorem dX1_putInOrder_0 : decode cX1_putInOrder 0 = .ok (.iconst 1, 1) := by decide +kernel
theorem dX1_putInOrder_1 : decode cX1_putInOrder 1 = .ok (.aload_n 0, 1) := by decide +kernel
theorem dX1_putInOrder_2 : decode cX1_putInOrder 2 = .ok (.getfield 31, 3) := by decide +kernel
theorem dX1_putInOrder_5 : decode cX1_putInOrder 5 = .ok (.ishl, 1) := by decide +kernel
theorem dX1_putInOrder_6 : decode cX1_putInOrder 6 = .ok (.iconst 1, 1) := by decide +kernel
theorem dX1_putInOrder_7 : decode cX1_putInOrder 7 = .ok (.isub, 1) := by decide +kernel
theorem dX1_putInOrder_8 : decode cX1_putInOrder 8 = .ok (.istore_n 1, 1) := by decide +kernel
theorem dX1_putInOrder_9 : decode cX1_putInOrder 9 = .ok (.iconst 0, 1) := by decide +kernel
theorem dX1_putInOrder_10 : decode cX1_putInOrder 10 = .ok (.istore_n 2, 1) := by decide +kernel
theorem dX1_putInOrder_11 : decode cX1_putInOrder 11 = .ok (.iload_n 2, 1) := by decide +kernel
theorem dX1_putInOrder_12 : decode cX1_putInOrder 12 = .ok (.aload_n 0, 1) := by decide +kernel
theorem dX1_putInOrder_13 : decode cX1_putInOrder 13 = .ok (.getfield 31, 3) := by decide +kernel
theorem dX1_putInOrder_16 : decode cX1_putInOrder 16 = .ok (.if_icmp .ge 38, 3) := by decide +kernel
theorem dX1_putInOrder_19 : decode cX1_putInOrder 19 = .ok (.iload_n 1, 1) := by decide +kernel
theorem dX1_putInOrder_20 : decode cX1_putInOrder 20 = .ok (.aload_n 0, 1) := by decide +kernel
theorem dX1_putInOrder_21 : decode cX1_putInOrder 21 = .ok (.iload_n 1, 1) := by decide +kernel
theorem dX1_putInOrder_22 : decode cX1_putInOrder 22 = .ok (.invokevirtual 76, 3) := by decide +kernel
theorem dX1_putInOrder_25 : decode cX1_putInOrder 25 = .ok (.iconst (-1), 1) := by decide +kernel
theorem dX1_putInOrder_26 : decode cX1_putInOrder 26 = .ok (.ixor, 1) := by decide +kernel
theorem dX1_putInOrder_27 : decode cX1_putInOrder 27 = .ok (.iand, 1) := by decide +kernel
theorem dX1_putInOrder_28 : decode cX1_putInOrder 28 = .ok (.iconst 0, 1) := by decide +kernel
theorem dX1_putInOrder_29 : decode cX1_putInOrder 29 = .ok (.invokestatic 80, 3) := by decide +kernel
theorem dX1_putInOrder_32 : decode cX1_putInOrder 32 = .ok (.istore_n 3, 1) := by decide +kernel
theorem dX1_putInOrder_33 : decode cX1_putInOrder 33 = .ok (.aload_n 0, 1) := by decide +kernel
theorem dX1_putInOrder_34 : decode cX1_putInOrder 34 = .ok (.getfield 18, 3) := by decide +kernel
theorem dX1_putInOrder_37 : decode cX1_putInOrder 37 = .ok (.iload_n 2, 1) := by decide +kernel
theorem dX1_putInOrder_38 : decode cX1_putInOrder 38 = .ok (.iload_n 3, 1) := by decide +kernel
theorem dX1_putInOrder_39 : decode cX1_putInOrder 39 = .ok (.iastore, 1) := by decide +kernel
theorem dX1_putInOrder_40 : decode cX1_putInOrder 40 = .ok (.iload_n 1, 1) := by decide +kernel
theorem dX1_putInOrder_41 : decode cX1_putInOrder 41 = .ok (.iconst 1, 1) := by decide +kernel
theorem dX1_putInOrder_42 : decode cX1_putInOrder 42 = .ok (.iload_n 3, 1) := by decide +kernel
theorem dX1_putInOrder_43 : decode cX1_putInOrder 43 = .ok (.ishl, 1) := by decide +kernel
theorem dX1_putInOrder_44 : decode cX1_putInOrder 44 = .ok (.iconst (-1), 1) := by decide +kernel
theorem dX1_putInOrder_45 : decode cX1_putInOrder 45 = .ok (.ixor, 1) := by decide +kernel
theorem dX1_putInOrder_46 : decode cX1_putInOrder 46 = .ok (.iand, 1) := by decide +kernel
theorem dX1_putInOrder_47 : decode cX1_putInOrder 47 = .ok (.istore_n 1, 1) := by decide +kernel
theorem dX1_putInOrder_48 : decode cX1_putInOrder 48 = .ok (.iinc 2 1, 3) := by decide +kernel
theorem dX1_putInOrder_51 : decode cX1_putInOrder 51 = .ok (.goto (-40), 3) := by decide +kernel
theorem dX1_putInOrder_54 : decode cX1_putInOrder 54 = .ok (.return_, 1) := by decide +kernel
theorem dX1_beatenByAny_0 : decode cX1_beatenByAny 0 = .ok (.iconst 0, 1) := by decide +kernel
theorem dX1_beatenByAny_1 : decode cX1_beatenByAny 1 = .ok (.istore_n 2, 1) := by decide +kernel
theorem dX1_beatenByAny_2 : decode cX1_beatenByAny 2 = .ok (.iconst 0, 1) := by decide +kernel
theorem dX1_beatenByAny_3 : decode cX1_beatenByAny 3 = .ok (.istore_n 3, 1) := by decide +kernel
theorem dX1_beatenByAny_4 : decode cX1_beatenByAny 4 = .ok (.iload_n 3, 1) := by decide +kernel
theorem dX1_beatenByAny_5 : decode cX1_beatenByAny 5 = .ok (.aload_n 0, 1) := by decide +kernel
theorem dX1_beatenByAny_6 : decode cX1_beatenByAny 6 = .ok (.getfield 31, 3) := by decide +kernel
theorem dX1_beatenByAny_9 : decode cX1_beatenByAny 9 = .ok (.if_icmp .ge 26, 3) := by decide +kernel
theorem dX1_beatenByAny_12 : decode cX1_beatenByAny 12 = .ok (.iload_n 1, 1) := by decide +kernel
theorem dX1_beatenByAny_13 : decode cX1_beatenByAny 13 = .ok (.iconst 1, 1) := by decide +kernel
theorem dX1_beatenByAny_14 : decode cX1_beatenByAny 14 = .ok (.iload_n 3, 1) := by decide +kernel
theorem dX1_beatenByAny_15 : decode cX1_beatenByAny 15 = .ok (.ishl, 1) := by decide +kernel
theorem dX1_beatenByAny_16 : decode cX1_beatenByAny 16 = .ok (.iand, 1) := by decide +kernel
theorem dX1_beatenByAny_17 : decode cX1_beatenByAny 17 = .ok (.ifCond .eq 12, 3) := by decide +kernel
theorem dX1_beatenByAny_20 : decode cX1_beatenByAny 20 = .ok (.iload_n 2, 1) := by decide +kernel
theorem dX1_beatenByAny_21 : decode cX1_beatenByAny 21 = .ok (.aload_n 0, 1) := by decide +kernel
theorem dX1_beatenByAny_22 : decode cX1_beatenByAny 22 = .ok (.getfield 28, 3) := by decide +kernel
theorem dX1_beatenByAny_25 : decode cX1_beatenByAny 25 = .ok (.iload_n 3, 1) := by decide +kernel
theorem dX1_beatenByAny_26 : decode cX1_beatenByAny 26 = .ok (.iaload, 1) := by decide +kernel
theorem dX1_beatenByAny_27 : decode cX1_beatenByAny 27 = .ok (.ior, 1) := by decide +kernel
theorem dX1_beatenByAny_28 : decode cX1_beatenByAny 28 = .ok (.istore_n 2, 1) := by decide +kernel
theorem dX1_beatenByAny_29 : decode cX1_beatenByAny 29 = .ok (.iinc 3 1, 3) := by decide +kernel
theorem dX1_beatenByAny_32 : decode cX1_beatenByAny 32 = .ok (.goto (-28), 3) := by decide +kernel
theorem dX1_beatenByAny_35 : decode cX1_beatenByAny 35 = .ok (.iload_n 2, 1) := by decide +kernel
theorem dX1_beatenByAny_36 : decode cX1_beatenByAny 36 = .ok (.ireturn, 1) := by decide +kernel
theorem dX1_beatenBy_0 : decode cX1_beatenBy 0 = .ok (.iload_n 1, 1) := by decide +kernel
theorem dX1_beatenBy_1 : decode cX1_beatenBy 1 = .ok (.ifCond .lt 20, 3) := by decide +kernel
theorem dX1_beatenBy_4 : decode cX1_beatenBy 4 = .ok (.iload_n 1, 1) := by decide +kernel
theorem dX1_beatenBy_5 : decode cX1_beatenBy 5 = .ok (.aload_n 0, 1) := by decide +kernel
theorem dX1_beatenBy_6 : decode cX1_beatenBy 6 = .ok (.getfield 31, 3) := by decide +kernel
theorem dX1_beatenBy_9 : decode cX1_beatenBy 9 = .ok (.if_icmp .ge 12, 3) := by decide +kernel
theorem dX1_beatenBy_12 : decode cX1_beatenBy 12 = .ok (.aload_n 0, 1) := by decide +kernel
theorem dX1_beatenBy_13 : decode cX1_beatenBy 13 = .ok (.getfield 28, 3) := by decide +kernel
theorem dX1_beatenBy_16 : decode cX1_beatenBy 16 = .ok (.iload_n 1, 1) := by decide +kernel
theorem dX1_beatenBy_17 : decode cX1_beatenBy 17 = .ok (.iaload, 1) := by decide +kernel
theorem dX1_beatenBy_18 : decode cX1_beatenBy 18 = .ok (.goto 4, 3) := by decide +kernel
theorem dX1_beatenBy_21 : decode cX1_beatenBy 21 = .ok (.iconst 0, 1) := by decide +kernel
theorem dX1_beatenBy_22 : decode cX1_beatenBy 22 = .ok (.ireturn, 1) := by decide +kernel
theorem dX1_beatersOf_0 : decode cX1_beatersOf 0 = .ok (.iconst 0, 1) := by decide +kernel
theorem dX1_beatersOf_1 : decode cX1_beatersOf 1 = .ok (.istore_n 2, 1) := by decide +kernel
theorem dX1_beatersOf_2 : decode cX1_beatersOf 2 = .ok (.iconst 0, 1) := by decide +kernel
theorem dX1_beatersOf_3 : decode cX1_beatersOf 3 = .ok (.istore_n 3, 1) := by decide +kernel
theorem dX1_beatersOf_4 : decode cX1_beatersOf 4 = .ok (.iload_n 3, 1) := by decide +kernel
theorem dX1_beatersOf_5 : decode cX1_beatersOf 5 = .ok (.aload_n 0, 1) := by decide +kernel
theorem dX1_beatersOf_6 : decode cX1_beatersOf 6 = .ok (.getfield 31, 3) := by decide +kernel
theorem dX1_beatersOf_9 : decode cX1_beatersOf 9 = .ok (.if_icmp .ge 28, 3) := by decide +kernel
theorem dX1_beatersOf_12 : decode cX1_beatersOf 12 = .ok (.aload_n 0, 1) := by decide +kernel
theorem dX1_beatersOf_13 : decode cX1_beatersOf 13 = .ok (.getfield 28, 3) := by decide +kernel
theorem dX1_beatersOf_16 : decode cX1_beatersOf 16 = .ok (.iload_n 3, 1) := by decide +kernel
theorem dX1_beatersOf_17 : decode cX1_beatersOf 17 = .ok (.iaload, 1) := by decide +kernel
theorem dX1_beatersOf_18 : decode cX1_beatersOf 18 = .ok (.iconst 1, 1) := by decide +kernel
theorem dX1_beatersOf_19 : decode cX1_beatersOf 19 = .ok (.iload_n 1, 1) := by decide +kernel
theorem dX1_beatersOf_20 : decode cX1_beatersOf 20 = .ok (.ishl, 1) := by decide +kernel
theorem dX1_beatersOf_21 : decode cX1_beatersOf 21 = .ok (.iand, 1) := by decide +kernel
theorem dX1_beatersOf_22 : decode cX1_beatersOf 22 = .ok (.ifCond .eq 9, 3) := by decide +kernel
theorem dX1_beatersOf_25 : decode cX1_beatersOf 25 = .ok (.iload_n 2, 1) := by decide +kernel
theorem dX1_beatersOf_26 : decode cX1_beatersOf 26 = .ok (.iconst 1, 1) := by decide +kernel
theorem dX1_beatersOf_27 : decode cX1_beatersOf 27 = .ok (.iload_n 3, 1) := by decide +kernel
theorem dX1_beatersOf_28 : decode cX1_beatersOf 28 = .ok (.ishl, 1) := by decide +kernel
theorem dX1_beatersOf_29 : decode cX1_beatersOf 29 = .ok (.ior, 1) := by decide +kernel
theorem dX1_beatersOf_30 : decode cX1_beatersOf 30 = .ok (.istore_n 2, 1) := by decide +kernel
theorem dX1_beatersOf_31 : decode cX1_beatersOf 31 = .ok (.iinc 3 1, 3) := by decide +kernel
theorem dX1_beatersOf_34 : decode cX1_beatersOf 34 = .ok (.goto (-30), 3) := by decide +kernel
theorem dX1_beatersOf_37 : decode cX1_beatersOf 37 = .ok (.iload_n 2, 1) := by decide +kernel
theorem dX1_beatersOf_38 : decode cX1_beatersOf 38 = .ok (.ireturn, 1) := by decide +kernel
theorem dX1_takersOf_0 : decode cX1_takersOf 0 = .ok (.iconst 1, 1) := by decide +kernel
theorem dX1_takersOf_1 : decode cX1_takersOf 1 = .ok (.aload_n 0, 1) := by decide +kernel
theorem dX1_takersOf_2 : decode cX1_takersOf 2 = .ok (.getfield 31, 3) := by decide +kernel
theorem dX1_takersOf_5 : decode cX1_takersOf 5 = .ok (.ishl, 1) := by decide +kernel
theorem dX1_takersOf_6 : decode cX1_takersOf 6 = .ok (.iconst 1, 1) := by decide +kernel
theorem dX1_takersOf_7 : decode cX1_takersOf 7 = .ok (.isub, 1) := by decide +kernel
theorem dX1_takersOf_8 : decode cX1_takersOf 8 = .ok (.istore_n 2, 1) := by decide +kernel
theorem dX1_takersOf_9 : decode cX1_takersOf 9 = .ok (.iconst 0, 1) := by decide +kernel
theorem dX1_takersOf_10 : decode cX1_takersOf 10 = .ok (.istore_n 3, 1) := by decide +kernel
theorem dX1_takersOf_11 : decode cX1_takersOf 11 = .ok (.iload_n 3, 1) := by decide +kernel
theorem dX1_takersOf_12 : decode cX1_takersOf 12 = .ok (.aload_n 0, 1) := by decide +kernel
theorem dX1_takersOf_13 : decode cX1_takersOf 13 = .ok (.getfield 49, 3) := by decide +kernel
theorem dX1_takersOf_16 : decode cX1_takersOf 16 = .ok (.if_icmp .ge 35, 3) := by decide +kernel
theorem dX1_takersOf_19 : decode cX1_takersOf 19 = .ok (.iload_n 2, 1) := by decide +kernel
theorem dX1_takersOf_20 : decode cX1_takersOf 20 = .ok (.aload_n 0, 1) := by decide +kernel
theorem dX1_takersOf_21 : decode cX1_takersOf 21 = .ok (.iload_n 3, 1) := by decide +kernel
theorem dX1_takersOf_22 : decode cX1_takersOf 22 = .ok (.aload_n 1, 1) := by decide +kernel
theorem dX1_takersOf_23 : decode cX1_takersOf 23 = .ok (.getfield 84, 3) := by decide +kernel
theorem dX1_takersOf_26 : decode cX1_takersOf 26 = .ok (.iload_n 3, 1) := by decide +kernel
theorem dX1_takersOf_27 : decode cX1_takersOf 27 = .ok (.iaload, 1) := by decide +kernel
theorem dX1_takersOf_28 : decode cX1_takersOf 28 = .ok (.invokevirtual 89, 3) := by decide +kernel
theorem dX1_takersOf_31 : decode cX1_takersOf 31 = .ok (.aload_n 0, 1) := by decide +kernel
theorem dX1_takersOf_32 : decode cX1_takersOf 32 = .ok (.iload_n 3, 1) := by decide +kernel
theorem dX1_takersOf_33 : decode cX1_takersOf 33 = .ok (.aload_n 1, 1) := by decide +kernel
theorem dX1_takersOf_34 : decode cX1_takersOf 34 = .ok (.getfield 92, 3) := by decide +kernel
theorem dX1_takersOf_37 : decode cX1_takersOf 37 = .ok (.iload_n 3, 1) := by decide +kernel
theorem dX1_takersOf_38 : decode cX1_takersOf 38 = .ok (.iaload, 1) := by decide +kernel
theorem dX1_takersOf_39 : decode cX1_takersOf 39 = .ok (.invokevirtual 95, 3) := by decide +kernel
theorem dX1_takersOf_42 : decode cX1_takersOf 42 = .ok (.iand, 1) := by decide +kernel
theorem dX1_takersOf_43 : decode cX1_takersOf 43 = .ok (.iand, 1) := by decide +kernel
theorem dX1_takersOf_44 : decode cX1_takersOf 44 = .ok (.istore_n 2, 1) := by decide +kernel
theorem dX1_takersOf_45 : decode cX1_takersOf 45 = .ok (.iinc 3 1, 3) := by decide +kernel
theorem dX1_takersOf_48 : decode cX1_takersOf 48 = .ok (.goto (-37), 3) := by decide +kernel
theorem dX1_takersOf_51 : decode cX1_takersOf 51 = .ok (.iload_n 2, 1) := by decide +kernel
theorem dX1_takersOf_52 : decode cX1_takersOf 52 = .ok (.ireturn, 1) := by decide +kernel
theorem dX1_plainTakersOf_0 : decode cX1_plainTakersOf 0 = .ok (.aload_n 0, 1) := by decide +kernel
theorem dX1_plainTakersOf_1 : decode cX1_plainTakersOf 1 = .ok (.aload_n 1, 1) := by decide +kernel
theorem dX1_plainTakersOf_2 : decode cX1_plainTakersOf 2 = .ok (.invokevirtual 98, 3) := by decide +kernel
theorem dX1_plainTakersOf_5 : decode cX1_plainTakersOf 5 = .ok (.aload_n 0, 1) := by decide +kernel
theorem dX1_plainTakersOf_6 : decode cX1_plainTakersOf 6 = .ok (.getfield 35, 3) := by decide +kernel
theorem dX1_plainTakersOf_9 : decode cX1_plainTakersOf 9 = .ok (.iand, 1) := by decide +kernel
theorem dX1_plainTakersOf_10 : decode cX1_plainTakersOf 10 = .ok (.ireturn, 1) := by decide +kernel
theorem dX1_takersOfClass_0 : decode cX1_takersOfClass 0 = .ok (.iconst 0, 1) := by decide +kernel
theorem dX1_takersOfClass_1 : decode cX1_takersOfClass 1 = .ok (.istore_n 3, 1) := by decide +kernel
theorem dX1_takersOfClass_2 : decode cX1_takersOfClass 2 = .ok (.iconst 0, 1) := by decide +kernel
theorem dX1_takersOfClass_3 : decode cX1_takersOfClass 3 = .ok (.istore 4, 2) := by decide +kernel
theorem dX1_takersOfClass_5 : decode cX1_takersOfClass 5 = .ok (.iload 4, 2) := by decide +kernel
theorem dX1_takersOfClass_7 : decode cX1_takersOfClass 7 = .ok (.aload_n 0, 1) := by decide +kernel
theorem dX1_takersOfClass_8 : decode cX1_takersOfClass 8 = .ok (.getfield 31, 3) := by decide +kernel
theorem dX1_takersOfClass_11 : decode cX1_takersOfClass 11 = .ok (.if_icmp .ge 31, 3) := by decide +kernel
theorem dX1_takersOfClass_14 : decode cX1_takersOfClass 14 = .ok (.aload_n 0, 1) := by decide +kernel
theorem dX1_takersOfClass_15 : decode cX1_takersOfClass 15 = .ok (.getfield 24, 3) := by decide +kernel
theorem dX1_takersOfClass_18 : decode cX1_takersOfClass 18 = .ok (.iload 4, 2) := by decide +kernel
theorem dX1_takersOfClass_20 : decode cX1_takersOfClass 20 = .ok (.aaload, 1) := by decide +kernel
theorem dX1_takersOfClass_21 : decode cX1_takersOfClass 21 = .ok (.iload_n 1, 1) := by decide +kernel
theorem dX1_takersOfClass_22 : decode cX1_takersOfClass 22 = .ok (.iload_n 2, 1) := by decide +kernel
theorem dX1_takersOfClass_23 : decode cX1_takersOfClass 23 = .ok (.invokevirtual 102, 3) := by decide +kernel
theorem dX1_takersOfClass_26 : decode cX1_takersOfClass 26 = .ok (.ifCond .eq 10, 3) := by decide +kernel
theorem dX1_takersOfClass_29 : decode cX1_takersOfClass 29 = .ok (.iload_n 3, 1) := by decide +kernel
theorem dX1_takersOfClass_30 : decode cX1_takersOfClass 30 = .ok (.iconst 1, 1) := by decide +kernel
theorem dX1_takersOfClass_31 : decode cX1_takersOfClass 31 = .ok (.iload 4, 2) := by decide +kernel
theorem dX1_takersOfClass_33 : decode cX1_takersOfClass 33 = .ok (.ishl, 1) := by decide +kernel
theorem dX1_takersOfClass_34 : decode cX1_takersOfClass 34 = .ok (.ior, 1) := by decide +kernel
theorem dX1_takersOfClass_35 : decode cX1_takersOfClass 35 = .ok (.istore_n 3, 1) := by decide +kernel
theorem dX1_takersOfClass_36 : decode cX1_takersOfClass 36 = .ok (.iinc 4 1, 3) := by decide +kernel
theorem dX1_takersOfClass_39 : decode cX1_takersOfClass 39 = .ok (.goto (-34), 3) := by decide +kernel
theorem dX1_takersOfClass_42 : decode cX1_takersOfClass 42 = .ok (.iload_n 3, 1) := by decide +kernel
theorem dX1_takersOfClass_43 : decode cX1_takersOfClass 43 = .ok (.ireturn, 1) := by decide +kernel
theorem dX1_takersOfWeight_0 : decode cX1_takersOfWeight 0 = .ok (.iconst 0, 1) := by decide +kernel
theorem dX1_takersOfWeight_1 : decode cX1_takersOfWeight 1 = .ok (.istore_n 3, 1) := by decide +kernel
theorem dX1_takersOfWeight_2 : decode cX1_takersOfWeight 2 = .ok (.iconst 0, 1) := by decide +kernel
theorem dX1_takersOfWeight_3 : decode cX1_takersOfWeight 3 = .ok (.istore 4, 2) := by decide +kernel
theorem dX1_takersOfWeight_5 : decode cX1_takersOfWeight 5 = .ok (.iload 4, 2) := by decide +kernel
theorem dX1_takersOfWeight_7 : decode cX1_takersOfWeight 7 = .ok (.aload_n 0, 1) := by decide +kernel
theorem dX1_takersOfWeight_8 : decode cX1_takersOfWeight 8 = .ok (.getfield 31, 3) := by decide +kernel
theorem dX1_takersOfWeight_11 : decode cX1_takersOfWeight 11 = .ok (.if_icmp .ge 31, 3) := by decide +kernel
theorem dX1_takersOfWeight_14 : decode cX1_takersOfWeight 14 = .ok (.aload_n 0, 1) := by decide +kernel
theorem dX1_takersOfWeight_15 : decode cX1_takersOfWeight 15 = .ok (.getfield 24, 3) := by decide +kernel
theorem dX1_takersOfWeight_18 : decode cX1_takersOfWeight 18 = .ok (.iload 4, 2) := by decide +kernel
theorem dX1_takersOfWeight_20 : decode cX1_takersOfWeight 20 = .ok (.aaload, 1) := by decide +kernel
theorem dX1_takersOfWeight_21 : decode cX1_takersOfWeight 21 = .ok (.iload_n 1, 1) := by decide +kernel
theorem dX1_takersOfWeight_22 : decode cX1_takersOfWeight 22 = .ok (.iload_n 2, 1) := by decide +kernel
theorem dX1_takersOfWeight_23 : decode cX1_takersOfWeight 23 = .ok (.invokevirtual 106, 3) := by decide +kernel
theorem dX1_takersOfWeight_26 : decode cX1_takersOfWeight 26 = .ok (.ifCond .eq 10, 3) := by decide +kernel
theorem dX1_takersOfWeight_29 : decode cX1_takersOfWeight 29 = .ok (.iload_n 3, 1) := by decide +kernel
theorem dX1_takersOfWeight_30 : decode cX1_takersOfWeight 30 = .ok (.iconst 1, 1) := by decide +kernel
theorem dX1_takersOfWeight_31 : decode cX1_takersOfWeight 31 = .ok (.iload 4, 2) := by decide +kernel
theorem dX1_takersOfWeight_33 : decode cX1_takersOfWeight 33 = .ok (.ishl, 1) := by decide +kernel
theorem dX1_takersOfWeight_34 : decode cX1_takersOfWeight 34 = .ok (.ior, 1) := by decide +kernel
theorem dX1_takersOfWeight_35 : decode cX1_takersOfWeight 35 = .ok (.istore_n 3, 1) := by decide +kernel
theorem dX1_takersOfWeight_36 : decode cX1_takersOfWeight 36 = .ok (.iinc 4 1, 3) := by decide +kernel
theorem dX1_takersOfWeight_39 : decode cX1_takersOfWeight 39 = .ok (.goto (-34), 3) := by decide +kernel
theorem dX1_takersOfWeight_42 : decode cX1_takersOfWeight 42 = .ok (.iload_n 3, 1) := by decide +kernel
theorem dX1_takersOfWeight_43 : decode cX1_takersOfWeight 43 = .ok (.ireturn, 1) := by decide +kernel
theorem dX1_chosenOf_0 : decode cX1_chosenOf 0 = .ok (.iconst 0, 1) := by decide +kernel
theorem dX1_chosenOf_1 : decode cX1_chosenOf 1 = .ok (.istore_n 2, 1) := by decide +kernel
theorem dX1_chosenOf_2 : decode cX1_chosenOf 2 = .ok (.iload_n 2, 1) := by decide +kernel
theorem dX1_chosenOf_3 : decode cX1_chosenOf 3 = .ok (.aload_n 0, 1) := by decide +kernel
theorem dX1_chosenOf_4 : decode cX1_chosenOf 4 = .ok (.getfield 31, 3) := by decide +kernel
theorem dX1_chosenOf_7 : decode cX1_chosenOf 7 = .ok (.if_icmp .ge 38, 3) := by decide +kernel
theorem dX1_chosenOf_10 : decode cX1_chosenOf 10 = .ok (.iconst 1, 1) := by decide +kernel
theorem dX1_chosenOf_11 : decode cX1_chosenOf 11 = .ok (.iload_n 2, 1) := by decide +kernel
theorem dX1_chosenOf_12 : decode cX1_chosenOf 12 = .ok (.ishl, 1) := by decide +kernel
theorem dX1_chosenOf_13 : decode cX1_chosenOf 13 = .ok (.istore_n 3, 1) := by decide +kernel
theorem dX1_chosenOf_14 : decode cX1_chosenOf 14 = .ok (.iload_n 1, 1) := by decide +kernel
theorem dX1_chosenOf_15 : decode cX1_chosenOf 15 = .ok (.iload_n 3, 1) := by decide +kernel
theorem dX1_chosenOf_16 : decode cX1_chosenOf 16 = .ok (.iand, 1) := by decide +kernel
theorem dX1_chosenOf_17 : decode cX1_chosenOf 17 = .ok (.ifCond .eq 22, 3) := by decide +kernel
theorem dX1_chosenOf_20 : decode cX1_chosenOf 20 = .ok (.iload_n 1, 1) := by decide +kernel
theorem dX1_chosenOf_21 : decode cX1_chosenOf 21 = .ok (.iload_n 3, 1) := by decide +kernel
theorem dX1_chosenOf_22 : decode cX1_chosenOf 22 = .ok (.iconst (-1), 1) := by decide +kernel
theorem dX1_chosenOf_23 : decode cX1_chosenOf 23 = .ok (.ixor, 1) := by decide +kernel
theorem dX1_chosenOf_24 : decode cX1_chosenOf 24 = .ok (.iand, 1) := by decide +kernel
theorem dX1_chosenOf_25 : decode cX1_chosenOf 25 = .ok (.aload_n 0, 1) := by decide +kernel
theorem dX1_chosenOf_26 : decode cX1_chosenOf 26 = .ok (.getfield 28, 3) := by decide +kernel
theorem dX1_chosenOf_29 : decode cX1_chosenOf 29 = .ok (.iload_n 2, 1) := by decide +kernel
theorem dX1_chosenOf_30 : decode cX1_chosenOf 30 = .ok (.iaload, 1) := by decide +kernel
theorem dX1_chosenOf_31 : decode cX1_chosenOf 31 = .ok (.iconst (-1), 1) := by decide +kernel
theorem dX1_chosenOf_32 : decode cX1_chosenOf 32 = .ok (.ixor, 1) := by decide +kernel
theorem dX1_chosenOf_33 : decode cX1_chosenOf 33 = .ok (.iand, 1) := by decide +kernel
theorem dX1_chosenOf_34 : decode cX1_chosenOf 34 = .ok (.ifCond .ne 5, 3) := by decide +kernel
theorem dX1_chosenOf_37 : decode cX1_chosenOf 37 = .ok (.iload_n 2, 1) := by decide +kernel
theorem dX1_chosenOf_38 : decode cX1_chosenOf 38 = .ok (.ireturn, 1) := by decide +kernel
theorem dX1_chosenOf_39 : decode cX1_chosenOf 39 = .ok (.iinc 2 1, 3) := by decide +kernel
theorem dX1_chosenOf_42 : decode cX1_chosenOf 42 = .ok (.goto (-40), 3) := by decide +kernel
theorem dX1_chosenOf_45 : decode cX1_chosenOf 45 = .ok (.iconst (-1), 1) := by decide +kernel
theorem dX1_chosenOf_46 : decode cX1_chosenOf 46 = .ok (.ireturn, 1) := by decide +kernel
theorem dX1_lookForRow_0 : decode cX1_lookForRow 0 = .ok (.aload_n 1, 1) := by decide +kernel
theorem dX1_lookForRow_1 : decode cX1_lookForRow 1 = .ok (.getfield 84, 3) := by decide +kernel
theorem dX1_lookForRow_4 : decode cX1_lookForRow 4 = .ok (.iconst 0, 1) := by decide +kernel
theorem dX1_lookForRow_5 : decode cX1_lookForRow 5 = .ok (.iaload, 1) := by decide +kernel
theorem dX1_lookForRow_6 : decode cX1_lookForRow 6 = .ok (.istore_n 2, 1) := by decide +kernel
theorem dX1_lookForRow_7 : decode cX1_lookForRow 7 = .ok (.aload_n 0, 1) := by decide +kernel
theorem dX1_lookForRow_8 : decode cX1_lookForRow 8 = .ok (.iconst 0, 1) := by decide +kernel
theorem dX1_lookForRow_9 : decode cX1_lookForRow 9 = .ok (.aload_n 1, 1) := by decide +kernel
theorem dX1_lookForRow_10 : decode cX1_lookForRow 10 = .ok (.getfield 92, 3) := by decide +kernel
theorem dX1_lookForRow_13 : decode cX1_lookForRow 13 = .ok (.iconst 0, 1) := by decide +kernel
theorem dX1_lookForRow_14 : decode cX1_lookForRow 14 = .ok (.iaload, 1) := by decide +kernel
theorem dX1_lookForRow_15 : decode cX1_lookForRow 15 = .ok (.invokevirtual 109, 3) := by decide +kernel
theorem dX1_lookForRow_18 : decode cX1_lookForRow 18 = .ok (.lstore_n 3, 1) := by decide +kernel
theorem dX1_lookForRow_19 : decode cX1_lookForRow 19 = .ok (.aload_n 0, 1) := by decide +kernel
theorem dX1_lookForRow_20 : decode cX1_lookForRow 20 = .ok (.getfield 49, 3) := by decide +kernel
theorem dX1_lookForRow_23 : decode cX1_lookForRow 23 = .ok (.iconst 2, 1) := by decide +kernel
theorem dX1_lookForRow_24 : decode cX1_lookForRow 24 = .ok (.if_icmp .ge 16, 3) := by decide +kernel
theorem dX1_lookForRow_27 : decode cX1_lookForRow 27 = .ok (.aload_n 0, 1) := by decide +kernel
theorem dX1_lookForRow_28 : decode cX1_lookForRow 28 = .ok (.getfield 12, 3) := by decide +kernel
theorem dX1_lookForRow_31 : decode cX1_lookForRow 31 = .ok (.iload_n 2, 1) := by decide +kernel
theorem dX1_lookForRow_32 : decode cX1_lookForRow 32 = .ok (.lload_n 3, 1) := by decide +kernel
theorem dX1_lookForRow_33 : decode cX1_lookForRow 33 = .ok (.lconst 0, 1) := by decide +kernel
theorem dX1_lookForRow_34 : decode cX1_lookForRow 34 = .ok (.invokevirtual 113, 3) := by decide +kernel
theorem dX1_lookForRow_37 : decode cX1_lookForRow 37 = .ok (.goto 33, 3) := by decide +kernel
theorem dX1_lookForRow_40 : decode cX1_lookForRow 40 = .ok (.aload_n 0, 1) := by decide +kernel
theorem dX1_lookForRow_41 : decode cX1_lookForRow 41 = .ok (.getfield 12, 3) := by decide +kernel
theorem dX1_lookForRow_44 : decode cX1_lookForRow 44 = .ok (.iload_n 2, 1) := by decide +kernel
theorem dX1_lookForRow_45 : decode cX1_lookForRow 45 = .ok (.bipush 12, 2) := by decide +kernel
theorem dX1_lookForRow_47 : decode cX1_lookForRow 47 = .ok (.imul, 1) := by decide +kernel
theorem dX1_lookForRow_48 : decode cX1_lookForRow 48 = .ok (.aload_n 1, 1) := by decide +kernel
theorem dX1_lookForRow_49 : decode cX1_lookForRow 49 = .ok (.getfield 84, 3) := by decide +kernel
theorem dX1_lookForRow_52 : decode cX1_lookForRow 52 = .ok (.iconst 1, 1) := by decide +kernel
theorem dX1_lookForRow_53 : decode cX1_lookForRow 53 = .ok (.iaload, 1) := by decide +kernel
theorem dX1_lookForRow_54 : decode cX1_lookForRow 54 = .ok (.iadd, 1) := by decide +kernel
theorem dX1_lookForRow_55 : decode cX1_lookForRow 55 = .ok (.lload_n 3, 1) := by decide +kernel
theorem dX1_lookForRow_56 : decode cX1_lookForRow 56 = .ok (.aload_n 0, 1) := by decide +kernel
theorem dX1_lookForRow_57 : decode cX1_lookForRow 57 = .ok (.iconst 1, 1) := by decide +kernel
theorem dX1_lookForRow_58 : decode cX1_lookForRow 58 = .ok (.aload_n 1, 1) := by decide +kernel
theorem dX1_lookForRow_59 : decode cX1_lookForRow 59 = .ok (.getfield 92, 3) := by decide +kernel
theorem dX1_lookForRow_62 : decode cX1_lookForRow 62 = .ok (.iconst 1, 1) := by decide +kernel
theorem dX1_lookForRow_63 : decode cX1_lookForRow 63 = .ok (.iaload, 1) := by decide +kernel
theorem dX1_lookForRow_64 : decode cX1_lookForRow 64 = .ok (.invokevirtual 109, 3) := by decide +kernel
theorem dX1_lookForRow_67 : decode cX1_lookForRow 67 = .ok (.invokevirtual 113, 3) := by decide +kernel
theorem dX1_lookForRow_70 : decode cX1_lookForRow 70 = .ok (.return_, 1) := by decide +kernel
theorem dX1_pieceOf_0 : decode cX1_pieceOf 0 = .ok (.ldc2_w 117, 3) := by decide +kernel
theorem dX1_pieceOf_3 : decode cX1_pieceOf 3 = .ok (.lstore_n 3, 1) := by decide +kernel
theorem dX1_pieceOf_4 : decode cX1_pieceOf 4 = .ok (.iconst 0, 1) := by decide +kernel
theorem dX1_pieceOf_5 : decode cX1_pieceOf 5 = .ok (.istore 5, 2) := by decide +kernel
theorem dX1_pieceOf_7 : decode cX1_pieceOf 7 = .ok (.iload 5, 2) := by decide +kernel
theorem dX1_pieceOf_9 : decode cX1_pieceOf 9 = .ok (.aload_n 0, 1) := by decide +kernel
theorem dX1_pieceOf_10 : decode cX1_pieceOf 10 = .ok (.getfield 31, 3) := by decide +kernel
theorem dX1_pieceOf_13 : decode cX1_pieceOf 13 = .ok (.if_icmp .ge 71, 3) := by decide +kernel
theorem dX1_pieceOf_16 : decode cX1_pieceOf 16 = .ok (.aload_n 0, 1) := by decide +kernel
theorem dX1_pieceOf_17 : decode cX1_pieceOf 17 = .ok (.getfield 24, 3) := by decide +kernel
theorem dX1_pieceOf_20 : decode cX1_pieceOf 20 = .ok (.iload 5, 2) := by decide +kernel
theorem dX1_pieceOf_22 : decode cX1_pieceOf 22 = .ok (.aaload, 1) := by decide +kernel
theorem dX1_pieceOf_23 : decode cX1_pieceOf 23 = .ok (.getfield 119, 3) := by decide +kernel
theorem dX1_pieceOf_26 : decode cX1_pieceOf 26 = .ok (.iload_n 1, 1) := by decide +kernel
theorem dX1_pieceOf_27 : decode cX1_pieceOf 27 = .ok (.iaload, 1) := by decide +kernel
theorem dX1_pieceOf_28 : decode cX1_pieceOf 28 = .ok (.i2l, 1) := by decide +kernel
theorem dX1_pieceOf_29 : decode cX1_pieceOf 29 = .ok (.lstore 6, 2) := by decide +kernel
theorem dX1_pieceOf_31 : decode cX1_pieceOf 31 = .ok (.aload_n 0, 1) := by decide +kernel
theorem dX1_pieceOf_32 : decode cX1_pieceOf 32 = .ok (.getfield 24, 3) := by decide +kernel
theorem dX1_pieceOf_35 : decode cX1_pieceOf 35 = .ok (.iload 5, 2) := by decide +kernel
theorem dX1_pieceOf_37 : decode cX1_pieceOf 37 = .ok (.aaload, 1) := by decide +kernel
theorem dX1_pieceOf_38 : decode cX1_pieceOf 38 = .ok (.getfield 122, 3) := by decide +kernel
theorem dX1_pieceOf_41 : decode cX1_pieceOf 41 = .ok (.iload_n 1, 1) := by decide +kernel
theorem dX1_pieceOf_42 : decode cX1_pieceOf 42 = .ok (.iaload, 1) := by decide +kernel
theorem dX1_pieceOf_43 : decode cX1_pieceOf 43 = .ok (.i2l, 1) := by decide +kernel
theorem dX1_pieceOf_44 : decode cX1_pieceOf 44 = .ok (.lconst 1, 1) := by decide +kernel
theorem dX1_pieceOf_45 : decode cX1_pieceOf 45 = .ok (.ladd, 1) := by decide +kernel
theorem dX1_pieceOf_46 : decode cX1_pieceOf 46 = .ok (.lstore 8, 2) := by decide +kernel
theorem dX1_pieceOf_48 : decode cX1_pieceOf 48 = .ok (.lload 6, 2) := by decide +kernel
theorem dX1_pieceOf_50 : decode cX1_pieceOf 50 = .ok (.iload_n 2, 1) := by decide +kernel
theorem dX1_pieceOf_51 : decode cX1_pieceOf 51 = .ok (.i2l, 1) := by decide +kernel
theorem dX1_pieceOf_52 : decode cX1_pieceOf 52 = .ok (.lcmp, 1) := by decide +kernel
theorem dX1_pieceOf_53 : decode cX1_pieceOf 53 = .ok (.ifCond .le 10, 3) := by decide +kernel
theorem dX1_pieceOf_56 : decode cX1_pieceOf 56 = .ok (.lload_n 3, 1) := by decide +kernel
theorem dX1_pieceOf_57 : decode cX1_pieceOf 57 = .ok (.lload 6, 2) := by decide +kernel
theorem dX1_pieceOf_59 : decode cX1_pieceOf 59 = .ok (.invokestatic 125, 3) := by decide +kernel
theorem dX1_pieceOf_62 : decode cX1_pieceOf 62 = .ok (.lstore_n 3, 1) := by decide +kernel
theorem dX1_pieceOf_63 : decode cX1_pieceOf 63 = .ok (.lload 8, 2) := by decide +kernel
theorem dX1_pieceOf_65 : decode cX1_pieceOf 65 = .ok (.iload_n 2, 1) := by decide +kernel
theorem dX1_pieceOf_66 : decode cX1_pieceOf 66 = .ok (.i2l, 1) := by decide +kernel
theorem dX1_pieceOf_67 : decode cX1_pieceOf 67 = .ok (.lcmp, 1) := by decide +kernel
theorem dX1_pieceOf_68 : decode cX1_pieceOf 68 = .ok (.ifCond .le 10, 3) := by decide +kernel
theorem dX1_pieceOf_71 : decode cX1_pieceOf 71 = .ok (.lload_n 3, 1) := by decide +kernel
theorem dX1_pieceOf_72 : decode cX1_pieceOf 72 = .ok (.lload 8, 2) := by decide +kernel
theorem dX1_pieceOf_74 : decode cX1_pieceOf 74 = .ok (.invokestatic 125, 3) := by decide +kernel
theorem dX1_pieceOf_77 : decode cX1_pieceOf 77 = .ok (.lstore_n 3, 1) := by decide +kernel
theorem dX1_pieceOf_78 : decode cX1_pieceOf 78 = .ok (.iinc 5 1, 3) := by decide +kernel
theorem dX1_pieceOf_81 : decode cX1_pieceOf 81 = .ok (.goto (-74), 3) := by decide +kernel
theorem dX1_pieceOf_84 : decode cX1_pieceOf 84 = .ok (.lload_n 3, 1) := by decide +kernel
theorem dX1_pieceOf_85 : decode cX1_pieceOf 85 = .ok (.lreturn, 1) := by decide +kernel
theorem dX2_init_0 : decode cX2_init 0 = .ok (.aload_n 0, 1) := by decide +kernel
theorem dX2_init_1 : decode cX2_init 1 = .ok (.invokespecial 3, 3) := by decide +kernel
theorem dX2_init_4 : decode cX2_init 4 = .ok (.aload_n 0, 1) := by decide +kernel
theorem dX2_init_5 : decode cX2_init 5 = .ok (.iconst 0, 1) := by decide +kernel
theorem dX2_init_6 : decode cX2_init 6 = .ok (.putfield 9, 3) := by decide +kernel
theorem dX2_init_9 : decode cX2_init 9 = .ok (.aload_n 0, 1) := by decide +kernel
theorem dX2_init_10 : decode cX2_init 10 = .ok (.aload_n 1, 1) := by decide +kernel
theorem dX2_init_11 : decode cX2_init 11 = .ok (.putfield 15, 3) := by decide +kernel
theorem dX2_init_14 : decode cX2_init 14 = .ok (.aload_n 0, 1) := by decide +kernel
theorem dX2_init_15 : decode cX2_init 15 = .ok (.iload_n 2, 1) := by decide +kernel
theorem dX2_init_16 : decode cX2_init 16 = .ok (.putfield 19, 3) := by decide +kernel
theorem dX2_init_19 : decode cX2_init 19 = .ok (.aload_n 0, 1) := by decide +kernel
theorem dX2_init_20 : decode cX2_init 20 = .ok (.iload_n 3, 1) := by decide +kernel
theorem dX2_init_21 : decode cX2_init 21 = .ok (.putfield 22, 3) := by decide +kernel
theorem dX2_init_24 : decode cX2_init 24 = .ok (.aload_n 0, 1) := by decide +kernel
theorem dX2_init_25 : decode cX2_init 25 = .ok (.iload 4, 2) := by decide +kernel
theorem dX2_init_27 : decode cX2_init 27 = .ok (.putfield 25, 3) := by decide +kernel
theorem dX2_init_30 : decode cX2_init 30 = .ok (.aload_n 0, 1) := by decide +kernel
theorem dX2_init_31 : decode cX2_init 31 = .ok (.iload 5, 2) := by decide +kernel
theorem dX2_init_33 : decode cX2_init 33 = .ok (.putfield 28, 3) := by decide +kernel
theorem dX2_init_36 : decode cX2_init 36 = .ok (.aload_n 0, 1) := by decide +kernel
theorem dX2_init_37 : decode cX2_init 37 = .ok (.aload_n 1, 1) := by decide +kernel
theorem dX2_init_38 : decode cX2_init 38 = .ok (.getfield 32, 3) := by decide +kernel
theorem dX2_init_41 : decode cX2_init 41 = .ok (.newarray .int, 2) := by decide +kernel
theorem dX2_init_43 : decode cX2_init 43 = .ok (.putfield 37, 3) := by decide +kernel
theorem dX2_init_46 : decode cX2_init 46 = .ok (.aload_n 0, 1) := by decide +kernel
theorem dX2_init_47 : decode cX2_init 47 = .ok (.aload_n 1, 1) := by decide +kernel
theorem dX2_init_48 : decode cX2_init 48 = .ok (.getfield 32, 3) := by decide +kernel
theorem dX2_init_51 : decode cX2_init 51 = .ok (.newarray .int, 2) := by decide +kernel
theorem dX2_init_53 : decode cX2_init 53 = .ok (.putfield 41, 3) := by decide +kernel
theorem dX2_init_56 : decode cX2_init 56 = .ok (.aload_n 0, 1) := by decide +kernel
theorem dX2_init_57 : decode cX2_init 57 = .ok (.aload_n 1, 1) := by decide +kernel
theorem dX2_init_58 : decode cX2_init 58 = .ok (.getfield 32, 3) := by decide +kernel
theorem dX2_init_61 : decode cX2_init 61 = .ok (.newarray .int, 2) := by decide +kernel
theorem dX2_init_63 : decode cX2_init 63 = .ok (.putfield 44, 3) := by decide +kernel
theorem dX2_init_66 : decode cX2_init 66 = .ok (.aload_n 0, 1) := by decide +kernel
theorem dX2_init_67 : decode cX2_init 67 = .ok (.getfield 37, 3) := by decide +kernel
theorem dX2_init_70 : decode cX2_init 70 = .ok (.iconst (-1), 1) := by decide +kernel
theorem dX2_init_71 : decode cX2_init 71 = .ok (.invokestatic 47, 3) := by decide +kernel
theorem dX2_init_74 : decode cX2_init 74 = .ok (.aload_n 0, 1) := by decide +kernel
theorem dX2_init_75 : decode cX2_init 75 = .ok (.getfield 41, 3) := by decide +kernel
theorem dX2_init_78 : decode cX2_init 78 = .ok (.ldc 55, 2) := by decide +kernel
theorem dX2_init_80 : decode cX2_init 80 = .ok (.invokestatic 47, 3) := by decide +kernel
theorem dX2_init_83 : decode cX2_init 83 = .ok (.aload_n 0, 1) := by decide +kernel
theorem dX2_init_84 : decode cX2_init 84 = .ok (.getfield 44, 3) := by decide +kernel
theorem dX2_init_87 : decode cX2_init 87 = .ok (.ldc 56, 2) := by decide +kernel
theorem dX2_init_89 : decode cX2_init 89 = .ok (.invokestatic 47, 3) := by decide +kernel
theorem dX2_init_92 : decode cX2_init 92 = .ok (.return_, 1) := by decide +kernel
theorem dX2_takesClass_0 : decode cX2_takesClass 0 = .ok (.aload_n 0, 1) := by decide +kernel
theorem dX2_takesClass_1 : decode cX2_takesClass 1 = .ok (.getfield 37, 3) := by decide +kernel
theorem dX2_takesClass_4 : decode cX2_takesClass 4 = .ok (.iload_n 1, 1) := by decide +kernel
theorem dX2_takesClass_5 : decode cX2_takesClass 5 = .ok (.iaload, 1) := by decide +kernel
theorem dX2_takesClass_6 : decode cX2_takesClass 6 = .ok (.iconst (-1), 1) := by decide +kernel
theorem dX2_takesClass_7 : decode cX2_takesClass 7 = .ok (.if_icmp .eq 23, 3) := by decide +kernel
theorem dX2_takesClass_10 : decode cX2_takesClass 10 = .ok (.aload_n 0, 1) := by decide +kernel
theorem dX2_takesClass_11 : decode cX2_takesClass 11 = .ok (.getfield 15, 3) := by decide +kernel
theorem dX2_takesClass_14 : decode cX2_takesClass 14 = .ok (.getfield 57, 3) := by decide +kernel
theorem dX2_takesClass_17 : decode cX2_takesClass 17 = .ok (.iload_n 2, 1) := by decide +kernel
theorem dX2_takesClass_18 : decode cX2_takesClass 18 = .ok (.aload_n 0, 1) := by decide +kernel
theorem dX2_takesClass_19 : decode cX2_takesClass 19 = .ok (.getfield 37, 3) := by decide +kernel
theorem dX2_takesClass_22 : decode cX2_takesClass 22 = .ok (.iload_n 1, 1) := by decide +kernel
theorem dX2_takesClass_23 : decode cX2_takesClass 23 = .ok (.iaload, 1) := by decide +kernel
theorem dX2_takesClass_24 : decode cX2_takesClass 24 = .ok (.invokevirtual 61, 3) := by decide +kernel
theorem dX2_takesClass_27 : decode cX2_takesClass 27 = .ok (.ifCond .eq 7, 3) := by decide +kernel
theorem dX2_takesClass_30 : decode cX2_takesClass 30 = .ok (.iconst 1, 1) := by decide +kernel
theorem dX2_takesClass_31 : decode cX2_takesClass 31 = .ok (.goto 4, 3) := by decide +kernel
theorem dX2_takesClass_34 : decode cX2_takesClass 34 = .ok (.iconst 0, 1) := by decide +kernel
theorem dX2_takesClass_35 : decode cX2_takesClass 35 = .ok (.ireturn, 1) := by decide +kernel
theorem dX2_takesWeight_0 : decode cX2_takesWeight 0 = .ok (.aload_n 0, 1) := by decide +kernel
theorem dX2_takesWeight_1 : decode cX2_takesWeight 1 = .ok (.getfield 41, 3) := by decide +kernel
theorem dX2_takesWeight_4 : decode cX2_takesWeight 4 = .ok (.iload_n 1, 1) := by decide +kernel
theorem dX2_takesWeight_5 : decode cX2_takesWeight 5 = .ok (.iaload, 1) := by decide +kernel
theorem dX2_takesWeight_6 : decode cX2_takesWeight 6 = .ok (.iload_n 2, 1) := by decide +kernel
theorem dX2_takesWeight_7 : decode cX2_takesWeight 7 = .ok (.if_icmp .gt 17, 3) := by decide +kernel
theorem dX2_takesWeight_10 : decode cX2_takesWeight 10 = .ok (.iload_n 2, 1) := by decide +kernel
theorem dX2_takesWeight_11 : decode cX2_takesWeight 11 = .ok (.aload_n 0, 1) := by decide +kernel
theorem dX2_takesWeight_12 : decode cX2_takesWeight 12 = .ok (.getfield 44, 3) := by decide +kernel
theorem dX2_takesWeight_15 : decode cX2_takesWeight 15 = .ok (.iload_n 1, 1) := by decide +kernel
theorem dX2_takesWeight_16 : decode cX2_takesWeight 16 = .ok (.iaload, 1) := by decide +kernel
theorem dX2_takesWeight_17 : decode cX2_takesWeight 17 = .ok (.if_icmp .gt 7, 3) := by decide +kernel
theorem dX2_takesWeight_20 : decode cX2_takesWeight 20 = .ok (.iconst 1, 1) := by decide +kernel
theorem dX2_takesWeight_21 : decode cX2_takesWeight 21 = .ok (.goto 4, 3) := by decide +kernel
theorem dX2_takesWeight_24 : decode cX2_takesWeight 24 = .ok (.iconst 0, 1) := by decide +kernel
theorem dX2_takesWeight_25 : decode cX2_takesWeight 25 = .ok (.ireturn, 1) := by decide +kernel
theorem dX2_firstRefusingPlace_0 : decode cX2_firstRefusingPlace 0 = .ok (.iconst 0, 1) := by decide +kernel
theorem dX2_firstRefusingPlace_1 : decode cX2_firstRefusingPlace 1 = .ok (.istore_n 2, 1) := by decide +kernel
theorem dX2_firstRefusingPlace_2 : decode cX2_firstRefusingPlace 2 = .ok (.iload_n 2, 1) := by decide +kernel
theorem dX2_firstRefusingPlace_3 : decode cX2_firstRefusingPlace 3 = .ok (.aload_n 0, 1) := by decide +kernel
theorem dX2_firstRefusingPlace_4 : decode cX2_firstRefusingPlace 4 = .ok (.getfield 15, 3) := by decide +kernel
theorem dX2_firstRefusingPlace_7 : decode cX2_firstRefusingPlace 7 = .ok (.getfield 32, 3) := by decide +kernel
theorem dX2_firstRefusingPlace_10 : decode cX2_firstRefusingPlace 10 = .ok (.if_icmp .ge 39, 3) := by decide +kernel
theorem dX2_firstRefusingPlace_13 : decode cX2_firstRefusingPlace 13 = .ok (.aload_n 0, 1) := by decide +kernel
theorem dX2_firstRefusingPlace_14 : decode cX2_firstRefusingPlace 14 = .ok (.iload_n 2, 1) := by decide +kernel
theorem dX2_firstRefusingPlace_15 : decode cX2_firstRefusingPlace 15 = .ok (.aload_n 1, 1) := by decide +kernel
theorem dX2_firstRefusingPlace_16 : decode cX2_firstRefusingPlace 16 = .ok (.getfield 67, 3) := by decide +kernel
theorem dX2_firstRefusingPlace_19 : decode cX2_firstRefusingPlace 19 = .ok (.iload_n 2, 1) := by decide +kernel
theorem dX2_firstRefusingPlace_20 : decode cX2_firstRefusingPlace 20 = .ok (.iaload, 1) := by decide +kernel
theorem dX2_firstRefusingPlace_21 : decode cX2_firstRefusingPlace 21 = .ok (.invokevirtual 72, 3) := by decide +kernel
theorem dX2_firstRefusingPlace_24 : decode cX2_firstRefusingPlace 24 = .ok (.ifCond .eq 17, 3) := by decide +kernel
theorem dX2_firstRefusingPlace_27 : decode cX2_firstRefusingPlace 27 = .ok (.aload_n 0, 1) := by decide +kernel
theorem dX2_firstRefusingPlace_28 : decode cX2_firstRefusingPlace 28 = .ok (.iload_n 2, 1) := by decide +kernel
theorem dX2_firstRefusingPlace_29 : decode cX2_firstRefusingPlace 29 = .ok (.aload_n 1, 1) := by decide +kernel
theorem dX2_firstRefusingPlace_30 : decode cX2_firstRefusingPlace 30 = .ok (.getfield 75, 3) := by decide +kernel
theorem dX2_firstRefusingPlace_33 : decode cX2_firstRefusingPlace 33 = .ok (.iload_n 2, 1) := by decide +kernel
theorem dX2_firstRefusingPlace_34 : decode cX2_firstRefusingPlace 34 = .ok (.iaload, 1) := by decide +kernel
theorem dX2_firstRefusingPlace_35 : decode cX2_firstRefusingPlace 35 = .ok (.invokevirtual 78, 3) := by decide +kernel
theorem dX2_firstRefusingPlace_38 : decode cX2_firstRefusingPlace 38 = .ok (.ifCond .ne 5, 3) := by decide +kernel
theorem dX2_firstRefusingPlace_41 : decode cX2_firstRefusingPlace 41 = .ok (.iload_n 2, 1) := by decide +kernel
theorem dX2_firstRefusingPlace_42 : decode cX2_firstRefusingPlace 42 = .ok (.ireturn, 1) := by decide +kernel
theorem dX2_firstRefusingPlace_43 : decode cX2_firstRefusingPlace 43 = .ok (.iinc 2 1, 3) := by decide +kernel
theorem dX2_firstRefusingPlace_46 : decode cX2_firstRefusingPlace 46 = .ok (.goto (-44), 3) := by decide +kernel
theorem dX2_firstRefusingPlace_49 : decode cX2_firstRefusingPlace 49 = .ok (.iconst (-1), 1) := by decide +kernel
theorem dX2_firstRefusingPlace_50 : decode cX2_firstRefusingPlace 50 = .ok (.ireturn, 1) := by decide +kernel
theorem dX2_isSameAt_0 : decode cX2_isSameAt 0 = .ok (.aload_n 0, 1) := by decide +kernel
theorem dX2_isSameAt_1 : decode cX2_isSameAt 1 = .ok (.getfield 37, 3) := by decide +kernel
theorem dX2_isSameAt_4 : decode cX2_isSameAt 4 = .ok (.iload_n 1, 1) := by decide +kernel
theorem dX2_isSameAt_5 : decode cX2_isSameAt 5 = .ok (.iaload, 1) := by decide +kernel
theorem dX2_isSameAt_6 : decode cX2_isSameAt 6 = .ok (.aload_n 2, 1) := by decide +kernel
theorem dX2_isSameAt_7 : decode cX2_isSameAt 7 = .ok (.getfield 37, 3) := by decide +kernel
theorem dX2_isSameAt_10 : decode cX2_isSameAt 10 = .ok (.iload_n 1, 1) := by decide +kernel
theorem dX2_isSameAt_11 : decode cX2_isSameAt 11 = .ok (.iaload, 1) := by decide +kernel
theorem dX2_isSameAt_12 : decode cX2_isSameAt 12 = .ok (.if_icmp .ne 37, 3) := by decide +kernel
theorem dX2_isSameAt_15 : decode cX2_isSameAt 15 = .ok (.aload_n 0, 1) := by decide +kernel
theorem dX2_isSameAt_16 : decode cX2_isSameAt 16 = .ok (.getfield 41, 3) := by decide +kernel
theorem dX2_isSameAt_19 : decode cX2_isSameAt 19 = .ok (.iload_n 1, 1) := by decide +kernel
theorem dX2_isSameAt_20 : decode cX2_isSameAt 20 = .ok (.iaload, 1) := by decide +kernel
theorem dX2_isSameAt_21 : decode cX2_isSameAt 21 = .ok (.aload_n 2, 1) := by decide +kernel
theorem dX2_isSameAt_22 : decode cX2_isSameAt 22 = .ok (.getfield 41, 3) := by decide +kernel
theorem dX2_isSameAt_25 : decode cX2_isSameAt 25 = .ok (.iload_n 1, 1) := by decide +kernel
theorem dX2_isSameAt_26 : decode cX2_isSameAt 26 = .ok (.iaload, 1) := by decide +kernel
theorem dX2_isSameAt_27 : decode cX2_isSameAt 27 = .ok (.if_icmp .ne 22, 3) := by decide +kernel
theorem dX2_isSameAt_30 : decode cX2_isSameAt 30 = .ok (.aload_n 0, 1) := by decide +kernel
theorem dX2_isSameAt_31 : decode cX2_isSameAt 31 = .ok (.getfield 44, 3) := by decide +kernel
theorem dX2_isSameAt_34 : decode cX2_isSameAt 34 = .ok (.iload_n 1, 1) := by decide +kernel
theorem dX2_isSameAt_35 : decode cX2_isSameAt 35 = .ok (.iaload, 1) := by decide +kernel
theorem dX2_isSameAt_36 : decode cX2_isSameAt 36 = .ok (.aload_n 2, 1) := by decide +kernel
theorem dX2_isSameAt_37 : decode cX2_isSameAt 37 = .ok (.getfield 44, 3) := by decide +kernel
theorem dX2_isSameAt_40 : decode cX2_isSameAt 40 = .ok (.iload_n 1, 1) := by decide +kernel
theorem dX2_isSameAt_41 : decode cX2_isSameAt 41 = .ok (.iaload, 1) := by decide +kernel
theorem dX2_isSameAt_42 : decode cX2_isSameAt 42 = .ok (.if_icmp .ne 7, 3) := by decide +kernel
theorem dX2_isSameAt_45 : decode cX2_isSameAt 45 = .ok (.iconst 1, 1) := by decide +kernel
theorem dX2_isSameAt_46 : decode cX2_isSameAt 46 = .ok (.goto 4, 3) := by decide +kernel
theorem dX2_isSameAt_49 : decode cX2_isSameAt 49 = .ok (.iconst 0, 1) := by decide +kernel
theorem dX2_isSameAt_50 : decode cX2_isSameAt 50 = .ok (.ireturn, 1) := by decide +kernel
theorem dX2_isNarrowerAt_0 : decode cX2_isNarrowerAt 0 = .ok (.aload_n 0, 1) := by decide +kernel
theorem dX2_isNarrowerAt_1 : decode cX2_isNarrowerAt 1 = .ok (.getfield 37, 3) := by decide +kernel
theorem dX2_isNarrowerAt_4 : decode cX2_isNarrowerAt 4 = .ok (.iload_n 1, 1) := by decide +kernel
theorem dX2_isNarrowerAt_5 : decode cX2_isNarrowerAt 5 = .ok (.iaload, 1) := by decide +kernel
theorem dX2_isNarrowerAt_6 : decode cX2_isNarrowerAt 6 = .ok (.aload_n 2, 1) := by decide +kernel
theorem dX2_isNarrowerAt_7 : decode cX2_isNarrowerAt 7 = .ok (.getfield 37, 3) := by decide +kernel
theorem dX2_isNarrowerAt_10 : decode cX2_isNarrowerAt 10 = .ok (.iload_n 1, 1) := by decide +kernel
theorem dX2_isNarrowerAt_11 : decode cX2_isNarrowerAt 11 = .ok (.iaload, 1) := by decide +kernel
theorem dX2_isNarrowerAt_12 : decode cX2_isNarrowerAt 12 = .ok (.if_icmp .eq 54, 3) := by decide +kernel
theorem dX2_isNarrowerAt_15 : decode cX2_isNarrowerAt 15 = .ok (.aload_n 0, 1) := by decide +kernel
theorem dX2_isNarrowerAt_16 : decode cX2_isNarrowerAt 16 = .ok (.getfield 37, 3) := by decide +kernel
theorem dX2_isNarrowerAt_19 : decode cX2_isNarrowerAt 19 = .ok (.iload_n 1, 1) := by decide +kernel
theorem dX2_isNarrowerAt_20 : decode cX2_isNarrowerAt 20 = .ok (.iaload, 1) := by decide +kernel
theorem dX2_isNarrowerAt_21 : decode cX2_isNarrowerAt 21 = .ok (.iconst (-1), 1) := by decide +kernel
theorem dX2_isNarrowerAt_22 : decode cX2_isNarrowerAt 22 = .ok (.if_icmp .eq 42, 3) := by decide +kernel
theorem dX2_isNarrowerAt_25 : decode cX2_isNarrowerAt 25 = .ok (.aload_n 2, 1) := by decide +kernel
theorem dX2_isNarrowerAt_26 : decode cX2_isNarrowerAt 26 = .ok (.getfield 37, 3) := by decide +kernel
theorem dX2_isNarrowerAt_29 : decode cX2_isNarrowerAt 29 = .ok (.iload_n 1, 1) := by decide +kernel
theorem dX2_isNarrowerAt_30 : decode cX2_isNarrowerAt 30 = .ok (.iaload, 1) := by decide +kernel
theorem dX2_isNarrowerAt_31 : decode cX2_isNarrowerAt 31 = .ok (.iconst (-1), 1) := by decide +kernel
theorem dX2_isNarrowerAt_32 : decode cX2_isNarrowerAt 32 = .ok (.if_icmp .eq 28, 3) := by decide +kernel
theorem dX2_isNarrowerAt_35 : decode cX2_isNarrowerAt 35 = .ok (.aload_n 0, 1) := by decide +kernel
theorem dX2_isNarrowerAt_36 : decode cX2_isNarrowerAt 36 = .ok (.getfield 15, 3) := by decide +kernel
theorem dX2_isNarrowerAt_39 : decode cX2_isNarrowerAt 39 = .ok (.getfield 57, 3) := by decide +kernel
theorem dX2_isNarrowerAt_42 : decode cX2_isNarrowerAt 42 = .ok (.aload_n 0, 1) := by decide +kernel
theorem dX2_isNarrowerAt_43 : decode cX2_isNarrowerAt 43 = .ok (.getfield 37, 3) := by decide +kernel
theorem dX2_isNarrowerAt_46 : decode cX2_isNarrowerAt 46 = .ok (.iload_n 1, 1) := by decide +kernel
theorem dX2_isNarrowerAt_47 : decode cX2_isNarrowerAt 47 = .ok (.iaload, 1) := by decide +kernel
theorem dX2_isNarrowerAt_48 : decode cX2_isNarrowerAt 48 = .ok (.aload_n 2, 1) := by decide +kernel
theorem dX2_isNarrowerAt_49 : decode cX2_isNarrowerAt 49 = .ok (.getfield 37, 3) := by decide +kernel
theorem dX2_isNarrowerAt_52 : decode cX2_isNarrowerAt 52 = .ok (.iload_n 1, 1) := by decide +kernel
theorem dX2_isNarrowerAt_53 : decode cX2_isNarrowerAt 53 = .ok (.iaload, 1) := by decide +kernel
theorem dX2_isNarrowerAt_54 : decode cX2_isNarrowerAt 54 = .ok (.invokevirtual 61, 3) := by decide +kernel
theorem dX2_isNarrowerAt_57 : decode cX2_isNarrowerAt 57 = .ok (.ifCond .eq 7, 3) := by decide +kernel
theorem dX2_isNarrowerAt_60 : decode cX2_isNarrowerAt 60 = .ok (.iconst 1, 1) := by decide +kernel
theorem dX2_isNarrowerAt_61 : decode cX2_isNarrowerAt 61 = .ok (.goto 4, 3) := by decide +kernel
theorem dX2_isNarrowerAt_64 : decode cX2_isNarrowerAt 64 = .ok (.iconst 0, 1) := by decide +kernel
theorem dX2_isNarrowerAt_65 : decode cX2_isNarrowerAt 65 = .ok (.ireturn, 1) := by decide +kernel
theorem dX2_isNarrowerAt_66 : decode cX2_isNarrowerAt 66 = .ok (.aload_n 2, 1) := by decide +kernel
theorem dX2_isNarrowerAt_67 : decode cX2_isNarrowerAt 67 = .ok (.getfield 41, 3) := by decide +kernel
theorem dX2_isNarrowerAt_70 : decode cX2_isNarrowerAt 70 = .ok (.iload_n 1, 1) := by decide +kernel
theorem dX2_isNarrowerAt_71 : decode cX2_isNarrowerAt 71 = .ok (.iaload, 1) := by decide +kernel
theorem dX2_isNarrowerAt_72 : decode cX2_isNarrowerAt 72 = .ok (.aload_n 0, 1) := by decide +kernel
theorem dX2_isNarrowerAt_73 : decode cX2_isNarrowerAt 73 = .ok (.getfield 41, 3) := by decide +kernel
theorem dX2_isNarrowerAt_76 : decode cX2_isNarrowerAt 76 = .ok (.iload_n 1, 1) := by decide +kernel
theorem dX2_isNarrowerAt_77 : decode cX2_isNarrowerAt 77 = .ok (.iaload, 1) := by decide +kernel
theorem dX2_isNarrowerAt_78 : decode cX2_isNarrowerAt 78 = .ok (.if_icmp .gt 31, 3) := by decide +kernel
theorem dX2_isNarrowerAt_81 : decode cX2_isNarrowerAt 81 = .ok (.aload_n 0, 1) := by decide +kernel
theorem dX2_isNarrowerAt_82 : decode cX2_isNarrowerAt 82 = .ok (.getfield 44, 3) := by decide +kernel
theorem dX2_isNarrowerAt_85 : decode cX2_isNarrowerAt 85 = .ok (.iload_n 1, 1) := by decide +kernel
theorem dX2_isNarrowerAt_86 : decode cX2_isNarrowerAt 86 = .ok (.iaload, 1) := by decide +kernel
theorem dX2_isNarrowerAt_87 : decode cX2_isNarrowerAt 87 = .ok (.aload_n 2, 1) := by decide +kernel
theorem dX2_isNarrowerAt_88 : decode cX2_isNarrowerAt 88 = .ok (.getfield 44, 3) := by decide +kernel
theorem dX2_isNarrowerAt_91 : decode cX2_isNarrowerAt 91 = .ok (.iload_n 1, 1) := by decide +kernel
theorem dX2_isNarrowerAt_92 : decode cX2_isNarrowerAt 92 = .ok (.iaload, 1) := by decide +kernel
theorem dX2_isNarrowerAt_93 : decode cX2_isNarrowerAt 93 = .ok (.if_icmp .gt 16, 3) := by decide +kernel
theorem dX2_isNarrowerAt_96 : decode cX2_isNarrowerAt 96 = .ok (.aload_n 0, 1) := by decide +kernel
theorem dX2_isNarrowerAt_97 : decode cX2_isNarrowerAt 97 = .ok (.iload_n 1, 1) := by decide +kernel
theorem dX2_isNarrowerAt_98 : decode cX2_isNarrowerAt 98 = .ok (.aload_n 2, 1) := by decide +kernel
theorem dX2_isNarrowerAt_99 : decode cX2_isNarrowerAt 99 = .ok (.invokevirtual 81, 3) := by decide +kernel
theorem dX2_isNarrowerAt_102 : decode cX2_isNarrowerAt 102 = .ok (.ifCond .ne 7, 3) := by decide +kernel
theorem dX2_isNarrowerAt_105 : decode cX2_isNarrowerAt 105 = .ok (.iconst 1, 1) := by decide +kernel
theorem dX2_isNarrowerAt_106 : decode cX2_isNarrowerAt 106 = .ok (.goto 4, 3) := by decide +kernel
theorem dX2_isNarrowerAt_109 : decode cX2_isNarrowerAt 109 = .ok (.iconst 0, 1) := by decide +kernel
theorem dX2_isNarrowerAt_110 : decode cX2_isNarrowerAt 110 = .ok (.ireturn, 1) := by decide +kernel
theorem dX2_isSameAs_0 : decode cX2_isSameAs 0 = .ok (.iconst 0, 1) := by decide +kernel
theorem dX2_isSameAs_1 : decode cX2_isSameAs 1 = .ok (.istore_n 2, 1) := by decide +kernel
theorem dX2_isSameAs_2 : decode cX2_isSameAs 2 = .ok (.iload_n 2, 1) := by decide +kernel
theorem dX2_isSameAs_3 : decode cX2_isSameAs 3 = .ok (.aload_n 0, 1) := by decide +kernel
theorem dX2_isSameAs_4 : decode cX2_isSameAs 4 = .ok (.getfield 15, 3) := by decide +kernel
theorem dX2_isSameAs_7 : decode cX2_isSameAs 7 = .ok (.getfield 32, 3) := by decide +kernel
theorem dX2_isSameAs_10 : decode cX2_isSameAs 10 = .ok (.if_icmp .ge 20, 3) := by decide +kernel
theorem dX2_isSameAs_13 : decode cX2_isSameAs 13 = .ok (.aload_n 0, 1) := by decide +kernel
theorem dX2_isSameAs_14 : decode cX2_isSameAs 14 = .ok (.iload_n 2, 1) := by decide +kernel
theorem dX2_isSameAs_15 : decode cX2_isSameAs 15 = .ok (.aload_n 1, 1) := by decide +kernel
theorem dX2_isSameAs_16 : decode cX2_isSameAs 16 = .ok (.invokevirtual 81, 3) := by decide +kernel
theorem dX2_isSameAs_19 : decode cX2_isSameAs 19 = .ok (.ifCond .ne 5, 3) := by decide +kernel
theorem dX2_isSameAs_22 : decode cX2_isSameAs 22 = .ok (.iconst 0, 1) := by decide +kernel
theorem dX2_isSameAs_23 : decode cX2_isSameAs 23 = .ok (.ireturn, 1) := by decide +kernel
theorem dX2_isSameAs_24 : decode cX2_isSameAs 24 = .ok (.iinc 2 1, 3) := by decide +kernel
theorem dX2_isSameAs_27 : decode cX2_isSameAs 27 = .ok (.goto (-25), 3) := by decide +kernel
theorem dX2_isSameAs_30 : decode cX2_isSameAs 30 = .ok (.iconst 1, 1) := by decide +kernel
theorem dX2_isSameAs_31 : decode cX2_isSameAs 31 = .ok (.ireturn, 1) := by decide +kernel
theorem dX2_isMoreSpecific_0 : decode cX2_isMoreSpecific 0 = .ok (.iconst 0, 1) := by decide +kernel
theorem dX2_isMoreSpecific_1 : decode cX2_isMoreSpecific 1 = .ok (.istore_n 2, 1) := by decide +kernel
theorem dX2_isMoreSpecific_2 : decode cX2_isMoreSpecific 2 = .ok (.iconst 0, 1) := by decide +kernel
theorem dX2_isMoreSpecific_3 : decode cX2_isMoreSpecific 3 = .ok (.istore_n 3, 1) := by decide +kernel
theorem dX2_isMoreSpecific_4 : decode cX2_isMoreSpecific 4 = .ok (.iload_n 3, 1) := by decide +kernel
theorem dX2_isMoreSpecific_5 : decode cX2_isMoreSpecific 5 = .ok (.aload_n 0, 1) := by decide +kernel
theorem dX2_isMoreSpecific_6 : decode cX2_isMoreSpecific 6 = .ok (.getfield 15, 3) := by decide +kernel
theorem dX2_isMoreSpecific_9 : decode cX2_isMoreSpecific 9 = .ok (.getfield 32, 3) := by decide +kernel
theorem dX2_isMoreSpecific_12 : decode cX2_isMoreSpecific 12 = .ok (.if_icmp .ge 34, 3) := by decide +kernel
theorem dX2_isMoreSpecific_15 : decode cX2_isMoreSpecific 15 = .ok (.aload_n 0, 1) := by decide +kernel
theorem dX2_isMoreSpecific_16 : decode cX2_isMoreSpecific 16 = .ok (.iload_n 3, 1) := by decide +kernel
theorem dX2_isMoreSpecific_17 : decode cX2_isMoreSpecific 17 = .ok (.aload_n 1, 1) := by decide +kernel
theorem dX2_isMoreSpecific_18 : decode cX2_isMoreSpecific 18 = .ok (.invokevirtual 85, 3) := by decide +kernel
theorem dX2_isMoreSpecific_21 : decode cX2_isMoreSpecific 21 = .ok (.ifCond .eq 8, 3) := by decide +kernel
theorem dX2_isMoreSpecific_24 : decode cX2_isMoreSpecific 24 = .ok (.iconst 1, 1) := by decide +kernel
theorem dX2_isMoreSpecific_25 : decode cX2_isMoreSpecific 25 = .ok (.istore_n 2, 1) := by decide +kernel
theorem dX2_isMoreSpecific_26 : decode cX2_isMoreSpecific 26 = .ok (.goto 14, 3) := by decide +kernel
theorem dX2_isMoreSpecific_29 : decode cX2_isMoreSpecific 29 = .ok (.aload_n 0, 1) := by decide +kernel
theorem dX2_isMoreSpecific_30 : decode cX2_isMoreSpecific 30 = .ok (.iload_n 3, 1) := by decide +kernel
theorem dX2_isMoreSpecific_31 : decode cX2_isMoreSpecific 31 = .ok (.aload_n 1, 1) := by decide +kernel
theorem dX2_isMoreSpecific_32 : decode cX2_isMoreSpecific 32 = .ok (.invokevirtual 81, 3) := by decide +kernel
theorem dX2_isMoreSpecific_35 : decode cX2_isMoreSpecific 35 = .ok (.ifCond .ne 5, 3) := by decide +kernel
theorem dX2_isMoreSpecific_38 : decode cX2_isMoreSpecific 38 = .ok (.iconst 0, 1) := by decide +kernel
theorem dX2_isMoreSpecific_39 : decode cX2_isMoreSpecific 39 = .ok (.ireturn, 1) := by decide +kernel
theorem dX2_isMoreSpecific_40 : decode cX2_isMoreSpecific 40 = .ok (.iinc 3 1, 3) := by decide +kernel
theorem dX2_isMoreSpecific_43 : decode cX2_isMoreSpecific 43 = .ok (.goto (-39), 3) := by decide +kernel
theorem dX2_isMoreSpecific_46 : decode cX2_isMoreSpecific 46 = .ok (.iload_n 2, 1) := by decide +kernel
theorem dX2_isMoreSpecific_47 : decode cX2_isMoreSpecific 47 = .ok (.ireturn, 1) := by decide +kernel
theorem dX3_init_0 : decode cX3_init 0 = .ok (.aload_n 0, 1) := by decide +kernel
theorem dX3_init_1 : decode cX3_init 1 = .ok (.invokespecial 3, 3) := by decide +kernel
theorem dX3_init_4 : decode cX3_init 4 = .ok (.aload_n 0, 1) := by decide +kernel
theorem dX3_init_5 : decode cX3_init 5 = .ok (.sipush 1000, 3) := by decide +kernel
theorem dX3_init_8 : decode cX3_init 8 = .ok (.newarray .int, 2) := by decide +kernel
theorem dX3_init_10 : decode cX3_init 10 = .ok (.putfield 9, 3) := by decide +kernel
theorem dX3_init_13 : decode cX3_init 13 = .ok (.aload_n 0, 1) := by decide +kernel
theorem dX3_init_14 : decode cX3_init 14 = .ok (.iconst 0, 1) := by decide +kernel
theorem dX3_init_15 : decode cX3_init 15 = .ok (.putfield 15, 3) := by decide +kernel
theorem dX3_init_18 : decode cX3_init 18 = .ok (.aload_n 0, 1) := by decide +kernel
theorem dX3_init_19 : decode cX3_init 19 = .ok (.iconst 0, 1) := by decide +kernel
theorem dX3_init_20 : decode cX3_init 20 = .ok (.putfield 19, 3) := by decide +kernel
theorem dX3_init_23 : decode cX3_init 23 = .ok (.aload_n 0, 1) := by decide +kernel
theorem dX3_init_24 : decode cX3_init 24 = .ok (.iconst 0, 1) := by decide +kernel
theorem dX3_init_25 : decode cX3_init 25 = .ok (.putfield 22, 3) := by decide +kernel
theorem dX3_init_28 : decode cX3_init 28 = .ok (.aload_n 0, 1) := by decide +kernel
theorem dX3_init_29 : decode cX3_init 29 = .ok (.iconst 0, 1) := by decide +kernel
theorem dX3_init_30 : decode cX3_init 30 = .ok (.putfield 25, 3) := by decide +kernel
theorem dX3_init_33 : decode cX3_init 33 = .ok (.aload_n 0, 1) := by decide +kernel
theorem dX3_init_34 : decode cX3_init 34 = .ok (.lconst 0, 1) := by decide +kernel
theorem dX3_init_35 : decode cX3_init 35 = .ok (.putfield 28, 3) := by decide +kernel
theorem dX3_init_38 : decode cX3_init 38 = .ok (.return_, 1) := by decide +kernel
theorem dX3_begin_0 : decode cX3_begin 0 = .ok (.aload_n 0, 1) := by decide +kernel
theorem dX3_begin_1 : decode cX3_begin 1 = .ok (.iconst 0, 1) := by decide +kernel
theorem dX3_begin_2 : decode cX3_begin 2 = .ok (.putfield 15, 3) := by decide +kernel
theorem dX3_begin_5 : decode cX3_begin 5 = .ok (.aload_n 0, 1) := by decide +kernel
theorem dX3_begin_6 : decode cX3_begin 6 = .ok (.iconst 0, 1) := by decide +kernel
theorem dX3_begin_7 : decode cX3_begin 7 = .ok (.putfield 19, 3) := by decide +kernel
theorem dX3_begin_10 : decode cX3_begin 10 = .ok (.aload_n 0, 1) := by decide +kernel
theorem dX3_begin_11 : decode cX3_begin 11 = .ok (.iconst 0, 1) := by decide +kernel
theorem dX3_begin_12 : decode cX3_begin 12 = .ok (.putfield 22, 3) := by decide +kernel
theorem dX3_begin_15 : decode cX3_begin 15 = .ok (.aload_n 0, 1) := by decide +kernel
theorem dX3_begin_16 : decode cX3_begin 16 = .ok (.iconst 0, 1) := by decide +kernel
theorem dX3_begin_17 : decode cX3_begin 17 = .ok (.putfield 25, 3) := by decide +kernel
theorem dX3_begin_20 : decode cX3_begin 20 = .ok (.aload_n 0, 1) := by decide +kernel
theorem dX3_begin_21 : decode cX3_begin 21 = .ok (.lconst 0, 1) := by decide +kernel
theorem dX3_begin_22 : decode cX3_begin 22 = .ok (.putfield 28, 3) := by decide +kernel
theorem dX3_begin_25 : decode cX3_begin 25 = .ok (.return_, 1) := by decide +kernel
theorem dX3_addStep_0 : decode cX3_addStep 0 = .ok (.aload_n 0, 1) := by decide +kernel
theorem dX3_addStep_1 : decode cX3_addStep 1 = .ok (.getfield 15, 3) := by decide +kernel
theorem dX3_addStep_4 : decode cX3_addStep 4 = .ok (.sipush 1000, 3) := by decide +kernel
theorem dX3_addStep_7 : decode cX3_addStep 7 = .ok (.if_icmp .ge 13, 3) := by decide +kernel
theorem dX3_addStep_10 : decode cX3_addStep 10 = .ok (.aload_n 0, 1) := by decide +kernel
theorem dX3_addStep_11 : decode cX3_addStep 11 = .ok (.getfield 9, 3) := by decide +kernel
theorem dX3_addStep_14 : decode cX3_addStep 14 = .ok (.aload_n 0, 1) := by decide +kernel
theorem dX3_addStep_15 : decode cX3_addStep 15 = .ok (.getfield 15, 3) := by decide +kernel
theorem dX3_addStep_18 : decode cX3_addStep 18 = .ok (.iload_n 1, 1) := by decide +kernel
theorem dX3_addStep_19 : decode cX3_addStep 19 = .ok (.iastore, 1) := by decide +kernel
theorem dX3_addStep_20 : decode cX3_addStep 20 = .ok (.aload_n 0, 1) := by decide +kernel
theorem dX3_addStep_21 : decode cX3_addStep 21 = .ok (.dup, 1) := by decide +kernel
theorem dX3_addStep_22 : decode cX3_addStep 22 = .ok (.getfield 15, 3) := by decide +kernel
theorem dX3_addStep_25 : decode cX3_addStep 25 = .ok (.iconst 1, 1) := by decide +kernel
theorem dX3_addStep_26 : decode cX3_addStep 26 = .ok (.iadd, 1) := by decide +kernel
theorem dX3_addStep_27 : decode cX3_addStep 27 = .ok (.putfield 15, 3) := by decide +kernel
theorem dX3_addStep_30 : decode cX3_addStep 30 = .ok (.return_, 1) := by decide +kernel
theorem dX3_endWithValue_0 : decode cX3_endWithValue 0 = .ok (.aload_n 0, 1) := by decide +kernel
theorem dX3_endWithValue_1 : decode cX3_endWithValue 1 = .ok (.iconst 0, 1) := by decide +kernel
theorem dX3_endWithValue_2 : decode cX3_endWithValue 2 = .ok (.putfield 22, 3) := by decide +kernel
theorem dX3_endWithValue_5 : decode cX3_endWithValue 5 = .ok (.aload_n 0, 1) := by decide +kernel
theorem dX3_endWithValue_6 : decode cX3_endWithValue 6 = .ok (.dup, 1) := by decide +kernel
theorem dX3_endWithValue_7 : decode cX3_endWithValue 7 = .ok (.getfield 28, 3) := by decide +kernel
theorem dX3_endWithValue_10 : decode cX3_endWithValue 10 = .ok (.lload_n 1, 1) := by decide +kernel
theorem dX3_endWithValue_11 : decode cX3_endWithValue 11 = .ok (.ladd, 1) := by decide +kernel
theorem dX3_endWithValue_12 : decode cX3_endWithValue 12 = .ok (.putfield 28, 3) := by decide +kernel
theorem dX3_endWithValue_15 : decode cX3_endWithValue 15 = .ok (.return_, 1) := by decide +kernel
theorem dX3_endWithFailure_0 : decode cX3_endWithFailure 0 = .ok (.aload_n 0, 1) := by decide +kernel
theorem dX3_endWithFailure_1 : decode cX3_endWithFailure 1 = .ok (.iconst 3, 1) := by decide +kernel
theorem dX3_endWithFailure_2 : decode cX3_endWithFailure 2 = .ok (.putfield 22, 3) := by decide +kernel
theorem dX3_endWithFailure_5 : decode cX3_endWithFailure 5 = .ok (.aload_n 0, 1) := by decide +kernel
theorem dX3_endWithFailure_6 : decode cX3_endWithFailure 6 = .ok (.iload_n 1, 1) := by decide +kernel
theorem dX3_endWithFailure_7 : decode cX3_endWithFailure 7 = .ok (.putfield 25, 3) := by decide +kernel
theorem dX3_endWithFailure_10 : decode cX3_endWithFailure 10 = .ok (.return_, 1) := by decide +kernel
theorem dX4_init_0 : decode cX4_init 0 = .ok (.aload_n 0, 1) := by decide +kernel
theorem dX4_init_1 : decode cX4_init 1 = .ok (.invokespecial 3, 3) := by decide +kernel
theorem dX4_init_4 : decode cX4_init 4 = .ok (.aload_n 0, 1) := by decide +kernel
theorem dX4_init_5 : decode cX4_init 5 = .ok (.bipush 16, 2) := by decide +kernel
theorem dX4_init_7 : decode cX4_init 7 = .ok (.newarray .int, 2) := by decide +kernel
theorem dX4_init_9 : decode cX4_init 9 = .ok (.putfield 9, 3) := by decide +kernel
theorem dX4_init_12 : decode cX4_init 12 = .ok (.aload_n 0, 1) := by decide +kernel
theorem dX4_init_13 : decode cX4_init 13 = .ok (.bipush 16, 2) := by decide +kernel
theorem dX4_init_15 : decode cX4_init 15 = .ok (.newarray .long, 2) := by decide +kernel
theorem dX4_init_17 : decode cX4_init 17 = .ok (.putfield 15, 3) := by decide +kernel
theorem dX4_init_20 : decode cX4_init 20 = .ok (.aload_n 0, 1) := by decide +kernel
theorem dX4_init_21 : decode cX4_init 21 = .ok (.bipush 16, 2) := by decide +kernel
theorem dX4_init_23 : decode cX4_init 23 = .ok (.newarray .long, 2) := by decide +kernel
theorem dX4_init_25 : decode cX4_init 25 = .ok (.putfield 19, 3) := by decide +kernel
theorem dX4_init_28 : decode cX4_init 28 = .ok (.aload_n 0, 1) := by decide +kernel
theorem dX4_init_29 : decode cX4_init 29 = .ok (.bipush 16, 2) := by decide +kernel
theorem dX4_init_31 : decode cX4_init 31 = .ok (.newarray .int, 2) := by decide +kernel
theorem dX4_init_33 : decode cX4_init 33 = .ok (.putfield 22, 3) := by decide +kernel
theorem dX4_init_36 : decode cX4_init 36 = .ok (.aload_n 0, 1) := by decide +kernel
theorem dX4_init_37 : decode cX4_init 37 = .ok (.iconst 0, 1) := by decide +kernel
theorem dX4_init_38 : decode cX4_init 38 = .ok (.putfield 25, 3) := by decide +kernel
theorem dX4_init_41 : decode cX4_init 41 = .ok (.aload_n 0, 1) := by decide +kernel
theorem dX4_init_42 : decode cX4_init 42 = .ok (.iconst 0, 1) := by decide +kernel
theorem dX4_init_43 : decode cX4_init 43 = .ok (.putfield 29, 3) := by decide +kernel
theorem dX4_init_46 : decode cX4_init 46 = .ok (.aload_n 0, 1) := by decide +kernel
theorem dX4_init_47 : decode cX4_init 47 = .ok (.iconst 0, 1) := by decide +kernel
theorem dX4_init_48 : decode cX4_init 48 = .ok (.putfield 32, 3) := by decide +kernel
theorem dX4_init_51 : decode cX4_init 51 = .ok (.return_, 1) := by decide +kernel
theorem dX4_forget_0 : decode cX4_forget 0 = .ok (.aload_n 0, 1) := by decide +kernel
theorem dX4_forget_1 : decode cX4_forget 1 = .ok (.iconst 0, 1) := by decide +kernel
theorem dX4_forget_2 : decode cX4_forget 2 = .ok (.putfield 29, 3) := by decide +kernel
theorem dX4_forget_5 : decode cX4_forget 5 = .ok (.return_, 1) := by decide +kernel
theorem dX4_look_0 : decode cX4_look 0 = .ok (.aload_n 0, 1) := by decide +kernel
theorem dX4_look_1 : decode cX4_look 1 = .ok (.iload_n 1, 1) := by decide +kernel
theorem dX4_look_2 : decode cX4_look 2 = .ok (.lload_n 2, 1) := by decide +kernel
theorem dX4_look_3 : decode cX4_look 3 = .ok (.lload 4, 2) := by decide +kernel
theorem dX4_look_5 : decode cX4_look 5 = .ok (.invokevirtual 35, 3) := by decide +kernel
theorem dX4_look_8 : decode cX4_look 8 = .ok (.istore 6, 2) := by decide +kernel
theorem dX4_look_10 : decode cX4_look 10 = .ok (.iload 6, 2) := by decide +kernel
theorem dX4_look_12 : decode cX4_look 12 = .ok (.iconst (-1), 1) := by decide +kernel
theorem dX4_look_13 : decode cX4_look 13 = .ok (.if_icmp .eq 16, 3) := by decide +kernel
theorem dX4_look_16 : decode cX4_look 16 = .ok (.aload_n 0, 1) := by decide +kernel
theorem dX4_look_17 : decode cX4_look 17 = .ok (.dup, 1) := by decide +kernel
theorem dX4_look_18 : decode cX4_look 18 = .ok (.getfield 32, 3) := by decide +kernel
theorem dX4_look_21 : decode cX4_look 21 = .ok (.iconst 1, 1) := by decide +kernel
theorem dX4_look_22 : decode cX4_look 22 = .ok (.iadd, 1) := by decide +kernel
theorem dX4_look_23 : decode cX4_look 23 = .ok (.putfield 32, 3) := by decide +kernel
theorem dX4_look_26 : decode cX4_look 26 = .ok (.goto 34, 3) := by decide +kernel
theorem dX4_look_29 : decode cX4_look 29 = .ok (.aload_n 0, 1) := by decide +kernel
theorem dX4_look_30 : decode cX4_look 30 = .ok (.invokevirtual 39, 3) := by decide +kernel
theorem dX4_look_33 : decode cX4_look 33 = .ok (.istore 6, 2) := by decide +kernel
theorem dX4_look_35 : decode cX4_look 35 = .ok (.aload_n 0, 1) := by decide +kernel
theorem dX4_look_36 : decode cX4_look 36 = .ok (.getfield 9, 3) := by decide +kernel
theorem dX4_look_39 : decode cX4_look 39 = .ok (.iload 6, 2) := by decide +kernel
theorem dX4_look_41 : decode cX4_look 41 = .ok (.iload_n 1, 1) := by decide +kernel
theorem dX4_look_42 : decode cX4_look 42 = .ok (.iastore, 1) := by decide +kernel
theorem dX4_look_43 : decode cX4_look 43 = .ok (.aload_n 0, 1) := by decide +kernel
theorem dX4_look_44 : decode cX4_look 44 = .ok (.getfield 15, 3) := by decide +kernel
theorem dX4_look_47 : decode cX4_look 47 = .ok (.iload 6, 2) := by decide +kernel
theorem dX4_look_49 : decode cX4_look 49 = .ok (.lload_n 2, 1) := by decide +kernel
theorem dX4_look_50 : decode cX4_look 50 = .ok (.lastore, 1) := by decide +kernel
theorem dX4_look_51 : decode cX4_look 51 = .ok (.aload_n 0, 1) := by decide +kernel
theorem dX4_look_52 : decode cX4_look 52 = .ok (.getfield 19, 3) := by decide +kernel
theorem dX4_look_55 : decode cX4_look 55 = .ok (.iload 6, 2) := by decide +kernel
theorem dX4_look_57 : decode cX4_look 57 = .ok (.lload 4, 2) := by decide +kernel
theorem dX4_look_59 : decode cX4_look 59 = .ok (.lastore, 1) := by decide +kernel
theorem dX4_look_60 : decode cX4_look 60 = .ok (.aload_n 0, 1) := by decide +kernel
theorem dX4_look_61 : decode cX4_look 61 = .ok (.dup, 1) := by decide +kernel
theorem dX4_look_62 : decode cX4_look 62 = .ok (.getfield 25, 3) := by decide +kernel
theorem dX4_look_65 : decode cX4_look 65 = .ok (.iconst 1, 1) := by decide +kernel
theorem dX4_look_66 : decode cX4_look 66 = .ok (.iadd, 1) := by decide +kernel
theorem dX4_look_67 : decode cX4_look 67 = .ok (.putfield 25, 3) := by decide +kernel
theorem dX4_look_70 : decode cX4_look 70 = .ok (.aload_n 0, 1) := by decide +kernel
theorem dX4_look_71 : decode cX4_look 71 = .ok (.getfield 22, 3) := by decide +kernel
theorem dX4_look_74 : decode cX4_look 74 = .ok (.iload 6, 2) := by decide +kernel
theorem dX4_look_76 : decode cX4_look 76 = .ok (.aload_n 0, 1) := by decide +kernel
theorem dX4_look_77 : decode cX4_look 77 = .ok (.getfield 25, 3) := by decide +kernel
theorem dX4_look_80 : decode cX4_look 80 = .ok (.iastore, 1) := by decide +kernel
theorem dX4_look_81 : decode cX4_look 81 = .ok (.return_, 1) := by decide +kernel
theorem dX4_find_0 : decode cX4_find 0 = .ok (.iconst 0, 1) := by decide +kernel
theorem dX4_find_1 : decode cX4_find 1 = .ok (.istore 6, 2) := by decide +kernel
theorem dX4_find_3 : decode cX4_find 3 = .ok (.iload 6, 2) := by decide +kernel
theorem dX4_find_5 : decode cX4_find 5 = .ok (.aload_n 0, 1) := by decide +kernel
theorem dX4_find_6 : decode cX4_find 6 = .ok (.getfield 29, 3) := by decide +kernel
theorem dX4_find_9 : decode cX4_find 9 = .ok (.if_icmp .ge 48, 3) := by decide +kernel
theorem dX4_find_12 : decode cX4_find 12 = .ok (.aload_n 0, 1) := by decide +kernel
theorem dX4_find_13 : decode cX4_find 13 = .ok (.getfield 9, 3) := by decide +kernel
theorem dX4_find_16 : decode cX4_find 16 = .ok (.iload 6, 2) := by decide +kernel
theorem dX4_find_18 : decode cX4_find 18 = .ok (.iaload, 1) := by decide +kernel
theorem dX4_find_19 : decode cX4_find 19 = .ok (.iload_n 1, 1) := by decide +kernel
theorem dX4_find_20 : decode cX4_find 20 = .ok (.if_icmp .ne 31, 3) := by decide +kernel
theorem dX4_find_23 : decode cX4_find 23 = .ok (.aload_n 0, 1) := by decide +kernel
theorem dX4_find_24 : decode cX4_find 24 = .ok (.getfield 15, 3) := by decide +kernel
theorem dX4_find_27 : decode cX4_find 27 = .ok (.iload 6, 2) := by decide +kernel
theorem dX4_find_29 : decode cX4_find 29 = .ok (.laload, 1) := by decide +kernel
theorem dX4_find_30 : decode cX4_find 30 = .ok (.lload_n 2, 1) := by decide +kernel
theorem dX4_find_31 : decode cX4_find 31 = .ok (.lcmp, 1) := by decide +kernel
theorem dX4_find_32 : decode cX4_find 32 = .ok (.ifCond .ne 19, 3) := by decide +kernel
theorem dX4_find_35 : decode cX4_find 35 = .ok (.aload_n 0, 1) := by decide +kernel
theorem dX4_find_36 : decode cX4_find 36 = .ok (.getfield 19, 3) := by decide +kernel
theorem dX4_find_39 : decode cX4_find 39 = .ok (.iload 6, 2) := by decide +kernel
theorem dX4_find_41 : decode cX4_find 41 = .ok (.laload, 1) := by decide +kernel
theorem dX4_find_42 : decode cX4_find 42 = .ok (.lload 4, 2) := by decide +kernel
theorem dX4_find_44 : decode cX4_find 44 = .ok (.lcmp, 1) := by decide +kernel
theorem dX4_find_45 : decode cX4_find 45 = .ok (.ifCond .ne 6, 3) := by decide +kernel
theorem dX4_find_48 : decode cX4_find 48 = .ok (.iload 6, 2) := by decide +kernel
theorem dX4_find_50 : decode cX4_find 50 = .ok (.ireturn, 1) := by decide +kernel
theorem dX4_find_51 : decode cX4_find 51 = .ok (.iinc 6 1, 3) := by decide +kernel
theorem dX4_find_54 : decode cX4_find 54 = .ok (.goto (-51), 3) := by decide +kernel
theorem dX4_find_57 : decode cX4_find 57 = .ok (.iconst (-1), 1) := by decide +kernel
theorem dX4_find_58 : decode cX4_find 58 = .ok (.ireturn, 1) := by decide +kernel
theorem dX4_makeRoom_0 : decode cX4_makeRoom 0 = .ok (.aload_n 0, 1) := by decide +kernel
theorem dX4_makeRoom_1 : decode cX4_makeRoom 1 = .ok (.getfield 29, 3) := by decide +kernel
theorem dX4_makeRoom_4 : decode cX4_makeRoom 4 = .ok (.bipush 16, 2) := by decide +kernel
theorem dX4_makeRoom_6 : decode cX4_makeRoom 6 = .ok (.if_icmp .ge 20, 3) := by decide +kernel
theorem dX4_makeRoom_9 : decode cX4_makeRoom 9 = .ok (.aload_n 0, 1) := by decide +kernel
theorem dX4_makeRoom_10 : decode cX4_makeRoom 10 = .ok (.dup, 1) := by decide +kernel
theorem dX4_makeRoom_11 : decode cX4_makeRoom 11 = .ok (.getfield 29, 3) := by decide +kernel
theorem dX4_makeRoom_14 : decode cX4_makeRoom 14 = .ok (.iconst 1, 1) := by decide +kernel
theorem dX4_makeRoom_15 : decode cX4_makeRoom 15 = .ok (.iadd, 1) := by decide +kernel
theorem dX4_makeRoom_16 : decode cX4_makeRoom 16 = .ok (.putfield 29, 3) := by decide +kernel
theorem dX4_makeRoom_19 : decode cX4_makeRoom 19 = .ok (.aload_n 0, 1) := by decide +kernel
theorem dX4_makeRoom_20 : decode cX4_makeRoom 20 = .ok (.getfield 29, 3) := by decide +kernel
theorem dX4_makeRoom_23 : decode cX4_makeRoom 23 = .ok (.iconst 1, 1) := by decide +kernel
theorem dX4_makeRoom_24 : decode cX4_makeRoom 24 = .ok (.isub, 1) := by decide +kernel
theorem dX4_makeRoom_25 : decode cX4_makeRoom 25 = .ok (.ireturn, 1) := by decide +kernel
theorem dX4_makeRoom_26 : decode cX4_makeRoom 26 = .ok (.iconst 0, 1) := by decide +kernel
theorem dX4_makeRoom_27 : decode cX4_makeRoom 27 = .ok (.istore_n 1, 1) := by decide +kernel
theorem dX4_makeRoom_28 : decode cX4_makeRoom 28 = .ok (.iconst 1, 1) := by decide +kernel
theorem dX4_makeRoom_29 : decode cX4_makeRoom 29 = .ok (.istore_n 2, 1) := by decide +kernel
theorem dX4_makeRoom_30 : decode cX4_makeRoom 30 = .ok (.iload_n 2, 1) := by decide +kernel
theorem dX4_makeRoom_31 : decode cX4_makeRoom 31 = .ok (.bipush 16, 2) := by decide +kernel
theorem dX4_makeRoom_33 : decode cX4_makeRoom 33 = .ok (.if_icmp .ge 26, 3) := by decide +kernel
theorem dX4_makeRoom_36 : decode cX4_makeRoom 36 = .ok (.aload_n 0, 1) := by decide +kernel
theorem dX4_makeRoom_37 : decode cX4_makeRoom 37 = .ok (.getfield 22, 3) := by decide +kernel
theorem dX4_makeRoom_40 : decode cX4_makeRoom 40 = .ok (.iload_n 2, 1) := by decide +kernel
theorem dX4_makeRoom_41 : decode cX4_makeRoom 41 = .ok (.iaload, 1) := by decide +kernel
theorem dX4_makeRoom_42 : decode cX4_makeRoom 42 = .ok (.aload_n 0, 1) := by decide +kernel
theorem dX4_makeRoom_43 : decode cX4_makeRoom 43 = .ok (.getfield 22, 3) := by decide +kernel
theorem dX4_makeRoom_46 : decode cX4_makeRoom 46 = .ok (.iload_n 1, 1) := by decide +kernel
theorem dX4_makeRoom_47 : decode cX4_makeRoom 47 = .ok (.iaload, 1) := by decide +kernel
theorem dX4_makeRoom_48 : decode cX4_makeRoom 48 = .ok (.if_icmp .ge 5, 3) := by decide +kernel
theorem dX4_makeRoom_51 : decode cX4_makeRoom 51 = .ok (.iload_n 2, 1) := by decide +kernel
theorem dX4_makeRoom_52 : decode cX4_makeRoom 52 = .ok (.istore_n 1, 1) := by decide +kernel
theorem dX4_makeRoom_53 : decode cX4_makeRoom 53 = .ok (.iinc 2 1, 3) := by decide +kernel
theorem dX4_makeRoom_56 : decode cX4_makeRoom 56 = .ok (.goto (-26), 3) := by decide +kernel
theorem dX4_makeRoom_59 : decode cX4_makeRoom 59 = .ok (.iload_n 1, 1) := by decide +kernel
theorem dX4_makeRoom_60 : decode cX4_makeRoom 60 = .ok (.ireturn, 1) := by decide +kernel
theorem dX5_init_0 : decode cX5_init 0 = .ok (.aload_n 0, 1) := by decide +kernel
theorem dX5_init_1 : decode cX5_init 1 = .ok (.invokespecial 3, 3) := by decide +kernel
theorem dX5_init_4 : decode cX5_init 4 = .ok (.aload_n 0, 1) := by decide +kernel
theorem dX5_init_5 : decode cX5_init 5 = .ok (.new 9, 3) := by decide +kernel
theorem dX5_init_8 : decode cX5_init 8 = .ok (.dup, 1) := by decide +kernel
theorem dX5_init_9 : decode cX5_init 9 = .ok (.invokespecial 11, 3) := by decide +kernel
theorem dX5_init_12 : decode cX5_init 12 = .ok (.putfield 12, 3) := by decide +kernel
theorem dX5_init_15 : decode cX5_init 15 = .ok (.aload_n 0, 1) := by decide +kernel
theorem dX5_init_16 : decode cX5_init 16 = .ok (.new 9, 3) := by decide +kernel
theorem dX5_init_19 : decode cX5_init 19 = .ok (.dup, 1) := by decide +kernel
theorem dX5_init_20 : decode cX5_init 20 = .ok (.invokespecial 11, 3) := by decide +kernel
theorem dX5_init_23 : decode cX5_init 23 = .ok (.putfield 18, 3) := by decide +kernel
theorem dX5_init_26 : decode cX5_init 26 = .ok (.aload_n 0, 1) := by decide +kernel
theorem dX5_init_27 : decode cX5_init 27 = .ok (.iconst 0, 1) := by decide +kernel
theorem dX5_init_28 : decode cX5_init 28 = .ok (.putfield 21, 3) := by decide +kernel
theorem dX5_init_31 : decode cX5_init 31 = .ok (.aload_n 0, 1) := by decide +kernel
theorem dX5_init_32 : decode cX5_init 32 = .ok (.iconst 0, 1) := by decide +kernel
theorem dX5_init_33 : decode cX5_init 33 = .ok (.putfield 25, 3) := by decide +kernel
theorem dX5_init_36 : decode cX5_init 36 = .ok (.aload_n 0, 1) := by decide +kernel
theorem dX5_init_37 : decode cX5_init 37 = .ok (.iconst 0, 1) := by decide +kernel
theorem dX5_init_38 : decode cX5_init 38 = .ok (.putfield 28, 3) := by decide +kernel
theorem dX5_init_41 : decode cX5_init 41 = .ok (.aload_n 0, 1) := by decide +kernel
theorem dX5_init_42 : decode cX5_init 42 = .ok (.iconst 0, 1) := by decide +kernel
theorem dX5_init_43 : decode cX5_init 43 = .ok (.putfield 31, 3) := by decide +kernel
theorem dX5_init_46 : decode cX5_init 46 = .ok (.return_, 1) := by decide +kernel
theorem dX5_fillCells_0 : decode cX5_fillCells 0 = .ok (.aload_n 0, 1) := by decide +kernel
theorem dX5_fillCells_1 : decode cX5_fillCells 1 = .ok (.getfield 12, 3) := by decide +kernel
theorem dX5_fillCells_4 : decode cX5_fillCells 4 = .ok (.aload_n 1, 1) := by decide +kernel
theorem dX5_fillCells_5 : decode cX5_fillCells 5 = .ok (.iconst 0, 1) := by decide +kernel
theorem dX5_fillCells_6 : decode cX5_fillCells 6 = .ok (.invokevirtual 34, 3) := by decide +kernel
theorem dX5_fillCells_9 : decode cX5_fillCells 9 = .ok (.aload_n 0, 1) := by decide +kernel
theorem dX5_fillCells_10 : decode cX5_fillCells 10 = .ok (.getfield 18, 3) := by decide +kernel
theorem dX5_fillCells_13 : decode cX5_fillCells 13 = .ok (.aload_n 1, 1) := by decide +kernel
theorem dX5_fillCells_14 : decode cX5_fillCells 14 = .ok (.iconst 1, 1) := by decide +kernel
theorem dX5_fillCells_15 : decode cX5_fillCells 15 = .ok (.invokevirtual 34, 3) := by decide +kernel
theorem dX5_fillCells_18 : decode cX5_fillCells 18 = .ok (.return_, 1) := by decide +kernel
theorem dX5_findHole_0 : decode cX5_findHole 0 = .ok (.aload_n 0, 1) := by decide +kernel
theorem dX5_findHole_1 : decode cX5_findHole 1 = .ok (.aload_n 1, 1) := by decide +kernel
theorem dX5_findHole_2 : decode cX5_findHole 2 = .ok (.invokevirtual 38, 3) := by decide +kernel
theorem dX5_findHole_5 : decode cX5_findHole 5 = .ok (.iconst 0, 1) := by decide +kernel
theorem dX5_findHole_6 : decode cX5_findHole 6 = .ok (.istore_n 2, 1) := by decide +kernel
theorem dX5_findHole_7 : decode cX5_findHole 7 = .ok (.iload_n 2, 1) := by decide +kernel
theorem dX5_findHole_8 : decode cX5_findHole 8 = .ok (.aload_n 0, 1) := by decide +kernel
theorem dX5_findHole_9 : decode cX5_findHole 9 = .ok (.getfield 12, 3) := by decide +kernel
theorem dX5_findHole_12 : decode cX5_findHole 12 = .ok (.getfield 42, 3) := by decide +kernel
theorem dX5_findHole_15 : decode cX5_findHole 15 = .ok (.if_icmp .ge 62, 3) := by decide +kernel
theorem dX5_findHole_18 : decode cX5_findHole 18 = .ok (.iconst 0, 1) := by decide +kernel
theorem dX5_findHole_19 : decode cX5_findHole 19 = .ok (.istore_n 3, 1) := by decide +kernel
theorem dX5_findHole_20 : decode cX5_findHole 20 = .ok (.iload_n 3, 1) := by decide +kernel
theorem dX5_findHole_21 : decode cX5_findHole 21 = .ok (.aload_n 0, 1) := by decide +kernel
theorem dX5_findHole_22 : decode cX5_findHole 22 = .ok (.getfield 18, 3) := by decide +kernel
theorem dX5_findHole_25 : decode cX5_findHole 25 = .ok (.getfield 42, 3) := by decide +kernel
theorem dX5_findHole_28 : decode cX5_findHole 28 = .ok (.if_icmp .ge 43, 3) := by decide +kernel
theorem dX5_findHole_31 : decode cX5_findHole 31 = .ok (.aload_n 1, 1) := by decide +kernel
theorem dX5_findHole_32 : decode cX5_findHole 32 = .ok (.aload_n 0, 1) := by decide +kernel
theorem dX5_findHole_33 : decode cX5_findHole 33 = .ok (.getfield 12, 3) := by decide +kernel
theorem dX5_findHole_36 : decode cX5_findHole 36 = .ok (.getfield 45, 3) := by decide +kernel
theorem dX5_findHole_39 : decode cX5_findHole 39 = .ok (.iload_n 2, 1) := by decide +kernel
theorem dX5_findHole_40 : decode cX5_findHole 40 = .ok (.iaload, 1) := by decide +kernel
theorem dX5_findHole_41 : decode cX5_findHole 41 = .ok (.aload_n 0, 1) := by decide +kernel
theorem dX5_findHole_42 : decode cX5_findHole 42 = .ok (.getfield 18, 3) := by decide +kernel
theorem dX5_findHole_45 : decode cX5_findHole 45 = .ok (.getfield 45, 3) := by decide +kernel
theorem dX5_findHole_48 : decode cX5_findHole 48 = .ok (.iload_n 3, 1) := by decide +kernel
theorem dX5_findHole_49 : decode cX5_findHole 49 = .ok (.iaload, 1) := by decide +kernel
theorem dX5_findHole_50 : decode cX5_findHole 50 = .ok (.iand, 1) := by decide +kernel
theorem dX5_findHole_51 : decode cX5_findHole 51 = .ok (.invokevirtual 49, 3) := by decide +kernel
theorem dX5_findHole_54 : decode cX5_findHole 54 = .ok (.iconst (-1), 1) := by decide +kernel
theorem dX5_findHole_55 : decode cX5_findHole 55 = .ok (.if_icmp .ne 10, 3) := by decide +kernel
theorem dX5_findHole_58 : decode cX5_findHole 58 = .ok (.aload_n 0, 1) := by decide +kernel
theorem dX5_findHole_59 : decode cX5_findHole 59 = .ok (.iload_n 2, 1) := by decide +kernel
theorem dX5_findHole_60 : decode cX5_findHole 60 = .ok (.iload_n 3, 1) := by decide +kernel
theorem dX5_findHole_61 : decode cX5_findHole 61 = .ok (.invokevirtual 55, 3) := by decide +kernel
theorem dX5_findHole_64 : decode cX5_findHole 64 = .ok (.ireturn, 1) := by decide +kernel
theorem dX5_findHole_65 : decode cX5_findHole 65 = .ok (.iinc 3 1, 3) := by decide +kernel
theorem dX5_findHole_68 : decode cX5_findHole 68 = .ok (.goto (-48), 3) := by decide +kernel
theorem dX5_findHole_71 : decode cX5_findHole 71 = .ok (.iinc 2 1, 3) := by decide +kernel
theorem dX5_findHole_74 : decode cX5_findHole 74 = .ok (.goto (-67), 3) := by decide +kernel
theorem dX5_findHole_77 : decode cX5_findHole 77 = .ok (.iconst 0, 1) := by decide +kernel
theorem dX5_findHole_78 : decode cX5_findHole 78 = .ok (.ireturn, 1) := by decide +kernel
theorem dX5_findDoubt_0 : decode cX5_findDoubt 0 = .ok (.aload_n 0, 1) := by decide +kernel
theorem dX5_findDoubt_1 : decode cX5_findDoubt 1 = .ok (.aload_n 1, 1) := by decide +kernel
theorem dX5_findDoubt_2 : decode cX5_findDoubt 2 = .ok (.invokevirtual 38, 3) := by decide +kernel
theorem dX5_findDoubt_5 : decode cX5_findDoubt 5 = .ok (.iconst 0, 1) := by decide +kernel
theorem dX5_findDoubt_6 : decode cX5_findDoubt 6 = .ok (.istore_n 3, 1) := by decide +kernel
theorem dX5_findDoubt_7 : decode cX5_findDoubt 7 = .ok (.iconst 0, 1) := by decide +kernel
theorem dX5_findDoubt_8 : decode cX5_findDoubt 8 = .ok (.istore 4, 2) := by decide +kernel
theorem dX5_findDoubt_10 : decode cX5_findDoubt 10 = .ok (.iload 4, 2) := by decide +kernel
theorem dX5_findDoubt_12 : decode cX5_findDoubt 12 = .ok (.aload_n 1, 1) := by decide +kernel
theorem dX5_findDoubt_13 : decode cX5_findDoubt 13 = .ok (.getfield 59, 3) := by decide +kernel
theorem dX5_findDoubt_16 : decode cX5_findDoubt 16 = .ok (.if_icmp .ge 64, 3) := by decide +kernel
theorem dX5_findDoubt_19 : decode cX5_findDoubt 19 = .ok (.iload 4, 2) := by decide +kernel
theorem dX5_findDoubt_21 : decode cX5_findDoubt 21 = .ok (.iconst 1, 1) := by decide +kernel
theorem dX5_findDoubt_22 : decode cX5_findDoubt 22 = .ok (.iadd, 1) := by decide +kernel
theorem dX5_findDoubt_23 : decode cX5_findDoubt 23 = .ok (.istore 5, 2) := by decide +kernel
theorem dX5_findDoubt_25 : decode cX5_findDoubt 25 = .ok (.iload 5, 2) := by decide +kernel
theorem dX5_findDoubt_27 : decode cX5_findDoubt 27 = .ok (.aload_n 1, 1) := by decide +kernel
theorem dX5_findDoubt_28 : decode cX5_findDoubt 28 = .ok (.getfield 59, 3) := by decide +kernel
theorem dX5_findDoubt_31 : decode cX5_findDoubt 31 = .ok (.if_icmp .ge 43, 3) := by decide +kernel
theorem dX5_findDoubt_34 : decode cX5_findDoubt 34 = .ok (.aload_n 0, 1) := by decide +kernel
theorem dX5_findDoubt_35 : decode cX5_findDoubt 35 = .ok (.aload_n 1, 1) := by decide +kernel
theorem dX5_findDoubt_36 : decode cX5_findDoubt 36 = .ok (.iload 4, 2) := by decide +kernel
theorem dX5_findDoubt_38 : decode cX5_findDoubt 38 = .ok (.iload 5, 2) := by decide +kernel
theorem dX5_findDoubt_40 : decode cX5_findDoubt 40 = .ok (.invokevirtual 62, 3) := by decide +kernel
theorem dX5_findDoubt_43 : decode cX5_findDoubt 43 = .ok (.ifCond .eq 25, 3) := by decide +kernel
theorem dX5_findDoubt_46 : decode cX5_findDoubt 46 = .ok (.iload_n 3, 1) := by decide +kernel
theorem dX5_findDoubt_47 : decode cX5_findDoubt 47 = .ok (.iload_n 2, 1) := by decide +kernel
theorem dX5_findDoubt_48 : decode cX5_findDoubt 48 = .ok (.if_icmp .ne 17, 3) := by decide +kernel
theorem dX5_findDoubt_51 : decode cX5_findDoubt 51 = .ok (.aload_n 0, 1) := by decide +kernel
theorem dX5_findDoubt_52 : decode cX5_findDoubt 52 = .ok (.iload 4, 2) := by decide +kernel
theorem dX5_findDoubt_54 : decode cX5_findDoubt 54 = .ok (.putfield 28, 3) := by decide +kernel
theorem dX5_findDoubt_57 : decode cX5_findDoubt 57 = .ok (.aload_n 0, 1) := by decide +kernel
theorem dX5_findDoubt_58 : decode cX5_findDoubt 58 = .ok (.iload 5, 2) := by decide +kernel
theorem dX5_findDoubt_60 : decode cX5_findDoubt 60 = .ok (.putfield 31, 3) := by decide +kernel
theorem dX5_findDoubt_63 : decode cX5_findDoubt 63 = .ok (.iconst 1, 1) := by decide +kernel
theorem dX5_findDoubt_64 : decode cX5_findDoubt 64 = .ok (.ireturn, 1) := by decide +kernel
theorem dX5_findDoubt_65 : decode cX5_findDoubt 65 = .ok (.iinc 3 1, 3) := by decide +kernel
theorem dX5_findDoubt_68 : decode cX5_findDoubt 68 = .ok (.iinc 5 1, 3) := by decide +kernel
theorem dX5_findDoubt_71 : decode cX5_findDoubt 71 = .ok (.goto (-46), 3) := by decide +kernel
theorem dX5_findDoubt_74 : decode cX5_findDoubt 74 = .ok (.iinc 4 1, 3) := by decide +kernel
theorem dX5_findDoubt_77 : decode cX5_findDoubt 77 = .ok (.goto (-67), 3) := by decide +kernel
theorem dX5_findDoubt_80 : decode cX5_findDoubt 80 = .ok (.iconst 0, 1) := by decide +kernel
theorem dX5_findDoubt_81 : decode cX5_findDoubt 81 = .ok (.ireturn, 1) := by decide +kernel
theorem dX5_haveDoubt_0 : decode cX5_haveDoubt 0 = .ok (.iconst 1, 1) := by decide +kernel
theorem dX5_haveDoubt_1 : decode cX5_haveDoubt 1 = .ok (.iload_n 2, 1) := by decide +kernel
theorem dX5_haveDoubt_2 : decode cX5_haveDoubt 2 = .ok (.ishl, 1) := by decide +kernel
theorem dX5_haveDoubt_3 : decode cX5_haveDoubt 3 = .ok (.iconst 1, 1) := by decide +kernel
theorem dX5_haveDoubt_4 : decode cX5_haveDoubt 4 = .ok (.iload_n 3, 1) := by decide +kernel
theorem dX5_haveDoubt_5 : decode cX5_haveDoubt 5 = .ok (.ishl, 1) := by decide +kernel
theorem dX5_haveDoubt_6 : decode cX5_haveDoubt 6 = .ok (.ior, 1) := by decide +kernel
theorem dX5_haveDoubt_7 : decode cX5_haveDoubt 7 = .ok (.istore 4, 2) := by decide +kernel
theorem dX5_haveDoubt_9 : decode cX5_haveDoubt 9 = .ok (.aload_n 1, 1) := by decide +kernel
theorem dX5_haveDoubt_10 : decode cX5_haveDoubt 10 = .ok (.getfield 66, 3) := by decide +kernel
theorem dX5_haveDoubt_13 : decode cX5_haveDoubt 13 = .ok (.iload 4, 2) := by decide +kernel
theorem dX5_haveDoubt_15 : decode cX5_haveDoubt 15 = .ok (.iand, 1) := by decide +kernel
theorem dX5_haveDoubt_16 : decode cX5_haveDoubt 16 = .ok (.iload 4, 2) := by decide +kernel
theorem dX5_haveDoubt_18 : decode cX5_haveDoubt 18 = .ok (.if_icmp .ne 27, 3) := by decide +kernel
theorem dX5_haveDoubt_21 : decode cX5_haveDoubt 21 = .ok (.aload_n 1, 1) := by decide +kernel
theorem dX5_haveDoubt_22 : decode cX5_haveDoubt 22 = .ok (.iload_n 2, 1) := by decide +kernel
theorem dX5_haveDoubt_23 : decode cX5_haveDoubt 23 = .ok (.invokevirtual 69, 3) := by decide +kernel
theorem dX5_haveDoubt_26 : decode cX5_haveDoubt 26 = .ok (.iconst 1, 1) := by decide +kernel
theorem dX5_haveDoubt_27 : decode cX5_haveDoubt 27 = .ok (.iload_n 3, 1) := by decide +kernel
theorem dX5_haveDoubt_28 : decode cX5_haveDoubt 28 = .ok (.ishl, 1) := by decide +kernel
theorem dX5_haveDoubt_29 : decode cX5_haveDoubt 29 = .ok (.iand, 1) := by decide +kernel
theorem dX5_haveDoubt_30 : decode cX5_haveDoubt 30 = .ok (.ifCond .ne 15, 3) := by decide +kernel
theorem dX5_haveDoubt_33 : decode cX5_haveDoubt 33 = .ok (.aload_n 1, 1) := by decide +kernel
theorem dX5_haveDoubt_34 : decode cX5_haveDoubt 34 = .ok (.iload_n 3, 1) := by decide +kernel
theorem dX5_haveDoubt_35 : decode cX5_haveDoubt 35 = .ok (.invokevirtual 69, 3) := by decide +kernel
theorem dX5_haveDoubt_38 : decode cX5_haveDoubt 38 = .ok (.iconst 1, 1) := by decide +kernel
theorem dX5_haveDoubt_39 : decode cX5_haveDoubt 39 = .ok (.iload_n 2, 1) := by decide +kernel
theorem dX5_haveDoubt_40 : decode cX5_haveDoubt 40 = .ok (.ishl, 1) := by decide +kernel
theorem dX5_haveDoubt_41 : decode cX5_haveDoubt 41 = .ok (.iand, 1) := by decide +kernel
theorem dX5_haveDoubt_42 : decode cX5_haveDoubt 42 = .ok (.ifCond .eq 5, 3) := by decide +kernel
theorem dX5_haveDoubt_45 : decode cX5_haveDoubt 45 = .ok (.iconst 0, 1) := by decide +kernel
theorem dX5_haveDoubt_46 : decode cX5_haveDoubt 46 = .ok (.ireturn, 1) := by decide +kernel
theorem dX5_haveDoubt_47 : decode cX5_haveDoubt 47 = .ok (.aload_n 1, 1) := by decide +kernel
theorem dX5_haveDoubt_48 : decode cX5_haveDoubt 48 = .ok (.iload_n 2, 1) := by decide +kernel
theorem dX5_haveDoubt_49 : decode cX5_haveDoubt 49 = .ok (.invokevirtual 72, 3) := by decide +kernel
theorem dX5_haveDoubt_52 : decode cX5_haveDoubt 52 = .ok (.aload_n 1, 1) := by decide +kernel
theorem dX5_haveDoubt_53 : decode cX5_haveDoubt 53 = .ok (.iload_n 3, 1) := by decide +kernel
theorem dX5_haveDoubt_54 : decode cX5_haveDoubt 54 = .ok (.invokevirtual 72, 3) := by decide +kernel
theorem dX5_haveDoubt_57 : decode cX5_haveDoubt 57 = .ok (.iand, 1) := by decide +kernel
theorem dX5_haveDoubt_58 : decode cX5_haveDoubt 58 = .ok (.istore 5, 2) := by decide +kernel
theorem dX5_haveDoubt_60 : decode cX5_haveDoubt 60 = .ok (.iconst 0, 1) := by decide +kernel
theorem dX5_haveDoubt_61 : decode cX5_haveDoubt 61 = .ok (.istore 6, 2) := by decide +kernel
theorem dX5_haveDoubt_63 : decode cX5_haveDoubt 63 = .ok (.iload 6, 2) := by decide +kernel
theorem dX5_haveDoubt_65 : decode cX5_haveDoubt 65 = .ok (.aload_n 0, 1) := by decide +kernel
theorem dX5_haveDoubt_66 : decode cX5_haveDoubt 66 = .ok (.getfield 12, 3) := by decide +kernel
theorem dX5_haveDoubt_69 : decode cX5_haveDoubt 69 = .ok (.getfield 42, 3) := by decide +kernel
theorem dX5_haveDoubt_72 : decode cX5_haveDoubt 72 = .ok (.if_icmp .ge 80, 3) := by decide +kernel
theorem dX5_haveDoubt_75 : decode cX5_haveDoubt 75 = .ok (.iconst 0, 1) := by decide +kernel
theorem dX5_haveDoubt_76 : decode cX5_haveDoubt 76 = .ok (.istore 7, 2) := by decide +kernel
theorem dX5_haveDoubt_78 : decode cX5_haveDoubt 78 = .ok (.iload 7, 2) := by decide +kernel
theorem dX5_haveDoubt_80 : decode cX5_haveDoubt 80 = .ok (.aload_n 0, 1) := by decide +kernel
theorem dX5_haveDoubt_81 : decode cX5_haveDoubt 81 = .ok (.getfield 18, 3) := by decide +kernel
theorem dX5_haveDoubt_84 : decode cX5_haveDoubt 84 = .ok (.getfield 42, 3) := by decide +kernel
theorem dX5_haveDoubt_87 : decode cX5_haveDoubt 87 = .ok (.if_icmp .ge 59, 3) := by decide +kernel
theorem dX5_haveDoubt_90 : decode cX5_haveDoubt 90 = .ok (.aload_n 0, 1) := by decide +kernel
theorem dX5_haveDoubt_91 : decode cX5_haveDoubt 91 = .ok (.getfield 12, 3) := by decide +kernel
theorem dX5_haveDoubt_94 : decode cX5_haveDoubt 94 = .ok (.getfield 45, 3) := by decide +kernel
theorem dX5_haveDoubt_97 : decode cX5_haveDoubt 97 = .ok (.iload 6, 2) := by decide +kernel
theorem dX5_haveDoubt_99 : decode cX5_haveDoubt 99 = .ok (.iaload, 1) := by decide +kernel
theorem dX5_haveDoubt_100 : decode cX5_haveDoubt 100 = .ok (.aload_n 0, 1) := by decide +kernel
theorem dX5_haveDoubt_101 : decode cX5_haveDoubt 101 = .ok (.getfield 18, 3) := by decide +kernel
theorem dX5_haveDoubt_104 : decode cX5_haveDoubt 104 = .ok (.getfield 45, 3) := by decide +kernel
theorem dX5_haveDoubt_107 : decode cX5_haveDoubt 107 = .ok (.iload 7, 2) := by decide +kernel
theorem dX5_haveDoubt_109 : decode cX5_haveDoubt 109 = .ok (.iaload, 1) := by decide +kernel
theorem dX5_haveDoubt_110 : decode cX5_haveDoubt 110 = .ok (.iand, 1) := by decide +kernel
theorem dX5_haveDoubt_111 : decode cX5_haveDoubt 111 = .ok (.istore 8, 2) := by decide +kernel
theorem dX5_haveDoubt_113 : decode cX5_haveDoubt 113 = .ok (.iload 8, 2) := by decide +kernel
theorem dX5_haveDoubt_115 : decode cX5_haveDoubt 115 = .ok (.iload 4, 2) := by decide +kernel
theorem dX5_haveDoubt_117 : decode cX5_haveDoubt 117 = .ok (.iand, 1) := by decide +kernel
theorem dX5_haveDoubt_118 : decode cX5_haveDoubt 118 = .ok (.iload 4, 2) := by decide +kernel
theorem dX5_haveDoubt_120 : decode cX5_haveDoubt 120 = .ok (.if_icmp .ne 20, 3) := by decide +kernel
theorem dX5_haveDoubt_123 : decode cX5_haveDoubt 123 = .ok (.iload 8, 2) := by decide +kernel
theorem dX5_haveDoubt_125 : decode cX5_haveDoubt 125 = .ok (.iload 5, 2) := by decide +kernel
theorem dX5_haveDoubt_127 : decode cX5_haveDoubt 127 = .ok (.iand, 1) := by decide +kernel
theorem dX5_haveDoubt_128 : decode cX5_haveDoubt 128 = .ok (.ifCond .ne 12, 3) := by decide +kernel
theorem dX5_haveDoubt_131 : decode cX5_haveDoubt 131 = .ok (.aload_n 0, 1) := by decide +kernel
theorem dX5_haveDoubt_132 : decode cX5_haveDoubt 132 = .ok (.iload 6, 2) := by decide +kernel
theorem dX5_haveDoubt_134 : decode cX5_haveDoubt 134 = .ok (.iload 7, 2) := by decide +kernel
theorem dX5_haveDoubt_136 : decode cX5_haveDoubt 136 = .ok (.invokevirtual 55, 3) := by decide +kernel
theorem dX5_haveDoubt_139 : decode cX5_haveDoubt 139 = .ok (.ireturn, 1) := by decide +kernel
theorem dX5_haveDoubt_140 : decode cX5_haveDoubt 140 = .ok (.iinc 7 1, 3) := by decide +kernel
theorem dX5_haveDoubt_143 : decode cX5_haveDoubt 143 = .ok (.goto (-65), 3) := by decide +kernel
theorem dX5_haveDoubt_146 : decode cX5_haveDoubt 146 = .ok (.iinc 6 1, 3) := by decide +kernel
theorem dX5_haveDoubt_149 : decode cX5_haveDoubt 149 = .ok (.goto (-86), 3) := by decide +kernel
theorem dX5_haveDoubt_152 : decode cX5_haveDoubt 152 = .ok (.iconst 0, 1) := by decide +kernel
theorem dX5_haveDoubt_153 : decode cX5_haveDoubt 153 = .ok (.ireturn, 1) := by decide +kernel
theorem dX5_foundAt_0 : decode cX5_foundAt 0 = .ok (.aload_n 0, 1) := by decide +kernel
theorem dX5_foundAt_1 : decode cX5_foundAt 1 = .ok (.iload_n 1, 1) := by decide +kernel
theorem dX5_foundAt_2 : decode cX5_foundAt 2 = .ok (.putfield 21, 3) := by decide +kernel
theorem dX5_foundAt_5 : decode cX5_foundAt 5 = .ok (.aload_n 0, 1) := by decide +kernel
theorem dX5_foundAt_6 : decode cX5_foundAt 6 = .ok (.iload_n 2, 1) := by decide +kernel
theorem dX5_foundAt_7 : decode cX5_foundAt 7 = .ok (.putfield 25, 3) := by decide +kernel
theorem dX5_foundAt_10 : decode cX5_foundAt 10 = .ok (.iconst 1, 1) := by decide +kernel
theorem dX5_foundAt_11 : decode cX5_foundAt 11 = .ok (.ireturn, 1) := by decide +kernel
theorem dX5_partOfTuple_0 : decode cX5_partOfTuple 0 = .ok (.iload_n 1, 1) := by decide +kernel
theorem dX5_partOfTuple_1 : decode cX5_partOfTuple 1 = .ok (.tableswitch 66 0 2 #[27, 40, 53], 27) := by decide +kernel
theorem dX5_partOfTuple_28 : decode cX5_partOfTuple 28 = .ok (.aload_n 0, 1) := by decide +kernel
theorem dX5_partOfTuple_29 : decode cX5_partOfTuple 29 = .ok (.getfield 12, 3) := by decide +kernel
theorem dX5_partOfTuple_32 : decode cX5_partOfTuple 32 = .ok (.getfield 75, 3) := by decide +kernel
theorem dX5_partOfTuple_35 : decode cX5_partOfTuple 35 = .ok (.aload_n 0, 1) := by decide +kernel
theorem dX5_partOfTuple_36 : decode cX5_partOfTuple 36 = .ok (.getfield 21, 3) := by decide +kernel
theorem dX5_partOfTuple_39 : decode cX5_partOfTuple 39 = .ok (.iaload, 1) := by decide +kernel
theorem dX5_partOfTuple_40 : decode cX5_partOfTuple 40 = .ok (.ireturn, 1) := by decide +kernel
theorem dX5_partOfTuple_41 : decode cX5_partOfTuple 41 = .ok (.aload_n 0, 1) := by decide +kernel
theorem dX5_partOfTuple_42 : decode cX5_partOfTuple 42 = .ok (.getfield 18, 3) := by decide +kernel
theorem dX5_partOfTuple_45 : decode cX5_partOfTuple 45 = .ok (.getfield 75, 3) := by decide +kernel
theorem dX5_partOfTuple_48 : decode cX5_partOfTuple 48 = .ok (.aload_n 0, 1) := by decide +kernel
theorem dX5_partOfTuple_49 : decode cX5_partOfTuple 49 = .ok (.getfield 25, 3) := by decide +kernel
theorem dX5_partOfTuple_52 : decode cX5_partOfTuple 52 = .ok (.iaload, 1) := by decide +kernel
theorem dX5_partOfTuple_53 : decode cX5_partOfTuple 53 = .ok (.ireturn, 1) := by decide +kernel
theorem dX5_partOfTuple_54 : decode cX5_partOfTuple 54 = .ok (.aload_n 0, 1) := by decide +kernel
theorem dX5_partOfTuple_55 : decode cX5_partOfTuple 55 = .ok (.getfield 12, 3) := by decide +kernel
theorem dX5_partOfTuple_58 : decode cX5_partOfTuple 58 = .ok (.getfield 78, 3) := by decide +kernel
theorem dX5_partOfTuple_61 : decode cX5_partOfTuple 61 = .ok (.aload_n 0, 1) := by decide +kernel
theorem dX5_partOfTuple_62 : decode cX5_partOfTuple 62 = .ok (.getfield 21, 3) := by decide +kernel
theorem dX5_partOfTuple_65 : decode cX5_partOfTuple 65 = .ok (.iaload, 1) := by decide +kernel
theorem dX5_partOfTuple_66 : decode cX5_partOfTuple 66 = .ok (.ireturn, 1) := by decide +kernel
theorem dX5_partOfTuple_67 : decode cX5_partOfTuple 67 = .ok (.aload_n 0, 1) := by decide +kernel
theorem dX5_partOfTuple_68 : decode cX5_partOfTuple 68 = .ok (.getfield 18, 3) := by decide +kernel
theorem dX5_partOfTuple_71 : decode cX5_partOfTuple 71 = .ok (.getfield 78, 3) := by decide +kernel
theorem dX5_partOfTuple_74 : decode cX5_partOfTuple 74 = .ok (.aload_n 0, 1) := by decide +kernel
theorem dX5_partOfTuple_75 : decode cX5_partOfTuple 75 = .ok (.getfield 25, 3) := by decide +kernel
theorem dX5_partOfTuple_78 : decode cX5_partOfTuple 78 = .ok (.iaload, 1) := by decide +kernel
theorem dX5_partOfTuple_79 : decode cX5_partOfTuple 79 = .ok (.ireturn, 1) := by decide +kernel
theorem dX6_init_0 : decode cX6_init 0 = .ok (.aload_n 0, 1) := by decide +kernel
theorem dX6_init_1 : decode cX6_init 1 = .ok (.invokespecial 3, 3) := by decide +kernel
theorem dX6_init_4 : decode cX6_init 4 = .ok (.aload_n 0, 1) := by decide +kernel
theorem dX6_init_5 : decode cX6_init 5 = .ok (.iconst 2, 1) := by decide +kernel
theorem dX6_init_6 : decode cX6_init 6 = .ok (.newarray .int, 2) := by decide +kernel
theorem dX6_init_8 : decode cX6_init 8 = .ok (.putfield 9, 3) := by decide +kernel
theorem dX6_init_11 : decode cX6_init 11 = .ok (.aload_n 0, 1) := by decide +kernel
theorem dX6_init_12 : decode cX6_init 12 = .ok (.iconst 2, 1) := by decide +kernel
theorem dX6_init_13 : decode cX6_init 13 = .ok (.newarray .int, 2) := by decide +kernel
theorem dX6_init_15 : decode cX6_init 15 = .ok (.putfield 15, 3) := by decide +kernel
theorem dX6_init_18 : decode cX6_init 18 = .ok (.aload_n 0, 1) := by decide +kernel
theorem dX6_init_19 : decode cX6_init 19 = .ok (.iconst 1, 1) := by decide +kernel
theorem dX6_init_20 : decode cX6_init 20 = .ok (.putfield 18, 3) := by decide +kernel
theorem dX6_init_23 : decode cX6_init 23 = .ok (.return_, 1) := by decide +kernel
theorem dX6_weightTogether_0 : decode cX6_weightTogether 0 = .ok (.lconst 0, 1) := by decide +kernel
theorem dX6_weightTogether_1 : decode cX6_weightTogether 1 = .ok (.lstore_n 1, 1) := by decide +kernel
theorem dX6_weightTogether_2 : decode cX6_weightTogether 2 = .ok (.iconst 0, 1) := by decide +kernel
theorem dX6_weightTogether_3 : decode cX6_weightTogether 3 = .ok (.istore_n 3, 1) := by decide +kernel
theorem dX6_weightTogether_4 : decode cX6_weightTogether 4 = .ok (.iload_n 3, 1) := by decide +kernel
theorem dX6_weightTogether_5 : decode cX6_weightTogether 5 = .ok (.aload_n 0, 1) := by decide +kernel
theorem dX6_weightTogether_6 : decode cX6_weightTogether 6 = .ok (.getfield 18, 3) := by decide +kernel
theorem dX6_weightTogether_9 : decode cX6_weightTogether 9 = .ok (.if_icmp .ge 19, 3) := by decide +kernel
theorem dX6_weightTogether_12 : decode cX6_weightTogether 12 = .ok (.lload_n 1, 1) := by decide +kernel
theorem dX6_weightTogether_13 : decode cX6_weightTogether 13 = .ok (.aload_n 0, 1) := by decide +kernel
theorem dX6_weightTogether_14 : decode cX6_weightTogether 14 = .ok (.getfield 15, 3) := by decide +kernel
theorem dX6_weightTogether_17 : decode cX6_weightTogether 17 = .ok (.iload_n 3, 1) := by decide +kernel
theorem dX6_weightTogether_18 : decode cX6_weightTogether 18 = .ok (.iaload, 1) := by decide +kernel
theorem dX6_weightTogether_19 : decode cX6_weightTogether 19 = .ok (.i2l, 1) := by decide +kernel
theorem dX6_weightTogether_20 : decode cX6_weightTogether 20 = .ok (.ladd, 1) := by decide +kernel
theorem dX6_weightTogether_21 : decode cX6_weightTogether 21 = .ok (.lstore_n 1, 1) := by decide +kernel
theorem dX6_weightTogether_22 : decode cX6_weightTogether 22 = .ok (.iinc 3 1, 3) := by decide +kernel
theorem dX6_weightTogether_25 : decode cX6_weightTogether 25 = .ok (.goto (-21), 3) := by decide +kernel
theorem dX6_weightTogether_28 : decode cX6_weightTogether 28 = .ok (.lload_n 1, 1) := by decide +kernel
theorem dX6_weightTogether_29 : decode cX6_weightTogether 29 = .ok (.lreturn, 1) := by decide +kernel
theorem dX6_turnRound_0 : decode cX6_turnRound 0 = .ok (.aload_n 0, 1) := by decide +kernel
theorem dX6_turnRound_1 : decode cX6_turnRound 1 = .ok (.getfield 18, 3) := by decide +kernel
theorem dX6_turnRound_4 : decode cX6_turnRound 4 = .ok (.iconst 2, 1) := by decide +kernel
theorem dX6_turnRound_5 : decode cX6_turnRound 5 = .ok (.if_icmp .ge 4, 3) := by decide +kernel
theorem dX6_turnRound_8 : decode cX6_turnRound 8 = .ok (.return_, 1) := by decide +kernel
theorem dX6_turnRound_9 : decode cX6_turnRound 9 = .ok (.aload_n 0, 1) := by decide +kernel
theorem dX6_turnRound_10 : decode cX6_turnRound 10 = .ok (.getfield 9, 3) := by decide +kernel
theorem dX6_turnRound_13 : decode cX6_turnRound 13 = .ok (.iconst 0, 1) := by decide +kernel
theorem dX6_turnRound_14 : decode cX6_turnRound 14 = .ok (.iaload, 1) := by decide +kernel
theorem dX6_turnRound_15 : decode cX6_turnRound 15 = .ok (.istore_n 1, 1) := by decide +kernel
theorem dX6_turnRound_16 : decode cX6_turnRound 16 = .ok (.aload_n 0, 1) := by decide +kernel
theorem dX6_turnRound_17 : decode cX6_turnRound 17 = .ok (.getfield 9, 3) := by decide +kernel
theorem dX6_turnRound_20 : decode cX6_turnRound 20 = .ok (.iconst 0, 1) := by decide +kernel
theorem dX6_turnRound_21 : decode cX6_turnRound 21 = .ok (.aload_n 0, 1) := by decide +kernel
theorem dX6_turnRound_22 : decode cX6_turnRound 22 = .ok (.getfield 9, 3) := by decide +kernel
theorem dX6_turnRound_25 : decode cX6_turnRound 25 = .ok (.iconst 1, 1) := by decide +kernel
theorem dX6_turnRound_26 : decode cX6_turnRound 26 = .ok (.iaload, 1) := by decide +kernel
theorem dX6_turnRound_27 : decode cX6_turnRound 27 = .ok (.iastore, 1) := by decide +kernel
theorem dX6_turnRound_28 : decode cX6_turnRound 28 = .ok (.aload_n 0, 1) := by decide +kernel
theorem dX6_turnRound_29 : decode cX6_turnRound 29 = .ok (.getfield 9, 3) := by decide +kernel
theorem dX6_turnRound_32 : decode cX6_turnRound 32 = .ok (.iconst 1, 1) := by decide +kernel
theorem dX6_turnRound_33 : decode cX6_turnRound 33 = .ok (.iload_n 1, 1) := by decide +kernel
theorem dX6_turnRound_34 : decode cX6_turnRound 34 = .ok (.iastore, 1) := by decide +kernel
theorem dX6_turnRound_35 : decode cX6_turnRound 35 = .ok (.aload_n 0, 1) := by decide +kernel
theorem dX6_turnRound_36 : decode cX6_turnRound 36 = .ok (.getfield 15, 3) := by decide +kernel
theorem dX6_turnRound_39 : decode cX6_turnRound 39 = .ok (.iconst 0, 1) := by decide +kernel
theorem dX6_turnRound_40 : decode cX6_turnRound 40 = .ok (.iaload, 1) := by decide +kernel
theorem dX6_turnRound_41 : decode cX6_turnRound 41 = .ok (.istore_n 2, 1) := by decide +kernel
theorem dX6_turnRound_42 : decode cX6_turnRound 42 = .ok (.aload_n 0, 1) := by decide +kernel
theorem dX6_turnRound_43 : decode cX6_turnRound 43 = .ok (.getfield 15, 3) := by decide +kernel
theorem dX6_turnRound_46 : decode cX6_turnRound 46 = .ok (.iconst 0, 1) := by decide +kernel
theorem dX6_turnRound_47 : decode cX6_turnRound 47 = .ok (.aload_n 0, 1) := by decide +kernel
theorem dX6_turnRound_48 : decode cX6_turnRound 48 = .ok (.getfield 15, 3) := by decide +kernel
theorem dX6_turnRound_51 : decode cX6_turnRound 51 = .ok (.iconst 1, 1) := by decide +kernel
theorem dX6_turnRound_52 : decode cX6_turnRound 52 = .ok (.iaload, 1) := by decide +kernel
theorem dX6_turnRound_53 : decode cX6_turnRound 53 = .ok (.iastore, 1) := by decide +kernel
theorem dX6_turnRound_54 : decode cX6_turnRound 54 = .ok (.aload_n 0, 1) := by decide +kernel
theorem dX6_turnRound_55 : decode cX6_turnRound 55 = .ok (.getfield 15, 3) := by decide +kernel
theorem dX6_turnRound_58 : decode cX6_turnRound 58 = .ok (.iconst 1, 1) := by decide +kernel
theorem dX6_turnRound_59 : decode cX6_turnRound 59 = .ok (.iload_n 2, 1) := by decide +kernel
theorem dX6_turnRound_60 : decode cX6_turnRound 60 = .ok (.iastore, 1) := by decide +kernel
theorem dX6_turnRound_61 : decode cX6_turnRound 61 = .ok (.return_, 1) := by decide +kernel
theorem dX7_init_0 : decode cX7_init 0 = .ok (.aload_n 0, 1) := by decide +kernel
theorem dX7_init_1 : decode cX7_init 1 = .ok (.invokespecial 3, 3) := by decide +kernel
theorem dX7_init_4 : decode cX7_init 4 = .ok (.aload_n 0, 1) := by decide +kernel
theorem dX7_init_5 : decode cX7_init 5 = .ok (.sipush 300, 3) := by decide +kernel
theorem dX7_init_8 : decode cX7_init 8 = .ok (.newarray .int, 2) := by decide +kernel
theorem dX7_init_10 : decode cX7_init 10 = .ok (.putfield 9, 3) := by decide +kernel
theorem dX7_init_13 : decode cX7_init 13 = .ok (.aload_n 0, 1) := by decide +kernel
theorem dX7_init_14 : decode cX7_init 14 = .ok (.sipush 300, 3) := by decide +kernel
theorem dX7_init_17 : decode cX7_init 17 = .ok (.newarray .int, 2) := by decide +kernel
theorem dX7_init_19 : decode cX7_init 19 = .ok (.putfield 15, 3) := by decide +kernel
theorem dX7_init_22 : decode cX7_init 22 = .ok (.aload_n 0, 1) := by decide +kernel
theorem dX7_init_23 : decode cX7_init 23 = .ok (.iconst 0, 1) := by decide +kernel
theorem dX7_init_24 : decode cX7_init 24 = .ok (.putfield 18, 3) := by decide +kernel
theorem dX7_init_27 : decode cX7_init 27 = .ok (.return_, 1) := by decide +kernel
theorem dX7_holds_0 : decode cX7_holds 0 = .ok (.iload_n 1, 1) := by decide +kernel
theorem dX7_holds_1 : decode cX7_holds 1 = .ok (.ifCond .lt 15, 3) := by decide +kernel
theorem dX7_holds_4 : decode cX7_holds 4 = .ok (.iload_n 1, 1) := by decide +kernel
theorem dX7_holds_5 : decode cX7_holds 5 = .ok (.aload_n 0, 1) := by decide +kernel
theorem dX7_holds_6 : decode cX7_holds 6 = .ok (.getfield 18, 3) := by decide +kernel
theorem dX7_holds_9 : decode cX7_holds 9 = .ok (.if_icmp .ge 7, 3) := by decide +kernel
theorem dX7_holds_12 : decode cX7_holds 12 = .ok (.iconst 1, 1) := by decide +kernel
theorem dX7_holds_13 : decode cX7_holds 13 = .ok (.goto 4, 3) := by decide +kernel
theorem dX7_holds_16 : decode cX7_holds 16 = .ok (.iconst 0, 1) := by decide +kernel
theorem dX7_holds_17 : decode cX7_holds 17 = .ok (.ireturn, 1) := by decide +kernel
theorem dX7_bring_0 : decode cX7_bring 0 = .ok (.aload_n 0, 1) := by decide +kernel
theorem dX7_bring_1 : decode cX7_bring 1 = .ok (.getfield 18, 3) := by decide +kernel
theorem dX7_bring_4 : decode cX7_bring 4 = .ok (.sipush 300, 3) := by decide +kernel
theorem dX7_bring_7 : decode cX7_bring 7 = .ok (.if_icmp .lt 5, 3) := by decide +kernel
theorem dX7_bring_10 : decode cX7_bring 10 = .ok (.iconst (-1), 1) := by decide +kernel
theorem dX7_bring_11 : decode cX7_bring 11 = .ok (.ireturn, 1) := by decide +kernel
theorem dX7_bring_12 : decode cX7_bring 12 = .ok (.aload_n 0, 1) := by decide +kernel
theorem dX7_bring_13 : decode cX7_bring 13 = .ok (.getfield 9, 3) := by decide +kernel
theorem dX7_bring_16 : decode cX7_bring 16 = .ok (.aload_n 0, 1) := by decide +kernel
theorem dX7_bring_17 : decode cX7_bring 17 = .ok (.getfield 18, 3) := by decide +kernel
theorem dX7_bring_20 : decode cX7_bring 20 = .ok (.iload_n 1, 1) := by decide +kernel
theorem dX7_bring_21 : decode cX7_bring 21 = .ok (.iastore, 1) := by decide +kernel
theorem dX7_bring_22 : decode cX7_bring 22 = .ok (.aload_n 0, 1) := by decide +kernel
theorem dX7_bring_23 : decode cX7_bring 23 = .ok (.getfield 15, 3) := by decide +kernel
theorem dX7_bring_26 : decode cX7_bring 26 = .ok (.aload_n 0, 1) := by decide +kernel
theorem dX7_bring_27 : decode cX7_bring 27 = .ok (.getfield 18, 3) := by decide +kernel
theorem dX7_bring_30 : decode cX7_bring 30 = .ok (.iload_n 2, 1) := by decide +kernel
theorem dX7_bring_31 : decode cX7_bring 31 = .ok (.iastore, 1) := by decide +kernel
theorem dX7_bring_32 : decode cX7_bring 32 = .ok (.aload_n 0, 1) := by decide +kernel
theorem dX7_bring_33 : decode cX7_bring 33 = .ok (.dup, 1) := by decide +kernel
theorem dX7_bring_34 : decode cX7_bring 34 = .ok (.getfield 18, 3) := by decide +kernel
theorem dX7_bring_37 : decode cX7_bring 37 = .ok (.iconst 1, 1) := by decide +kernel
theorem dX7_bring_38 : decode cX7_bring 38 = .ok (.iadd, 1) := by decide +kernel
theorem dX7_bring_39 : decode cX7_bring 39 = .ok (.putfield 18, 3) := by decide +kernel
theorem dX7_bring_42 : decode cX7_bring 42 = .ok (.aload_n 0, 1) := by decide +kernel
theorem dX7_bring_43 : decode cX7_bring 43 = .ok (.getfield 18, 3) := by decide +kernel
theorem dX7_bring_46 : decode cX7_bring 46 = .ok (.iconst 1, 1) := by decide +kernel
theorem dX7_bring_47 : decode cX7_bring 47 = .ok (.isub, 1) := by decide +kernel
theorem dX7_bring_48 : decode cX7_bring 48 = .ok (.ireturn, 1) := by decide +kernel
theorem dX8_init_0 : decode cX8_init 0 = .ok (.aload_n 0, 1) := by decide +kernel
theorem dX8_init_1 : decode cX8_init 1 = .ok (.invokespecial 3, 3) := by decide +kernel
theorem dX8_init_4 : decode cX8_init 4 = .ok (.aload_n 0, 1) := by decide +kernel
theorem dX8_init_5 : decode cX8_init 5 = .ok (.bipush 12, 2) := by decide +kernel
theorem dX8_init_7 : decode cX8_init 7 = .ok (.newarray .int, 2) := by decide +kernel
theorem dX8_init_9 : decode cX8_init 9 = .ok (.putfield 9, 3) := by decide +kernel
theorem dX8_init_12 : decode cX8_init 12 = .ok (.aload_n 0, 1) := by decide +kernel
theorem dX8_init_13 : decode cX8_init 13 = .ok (.bipush 16, 2) := by decide +kernel
theorem dX8_init_15 : decode cX8_init 15 = .ok (.newarray .int, 2) := by decide +kernel
theorem dX8_init_17 : decode cX8_init 17 = .ok (.putfield 15, 3) := by decide +kernel
theorem dX8_init_20 : decode cX8_init 20 = .ok (.aload_n 0, 1) := by decide +kernel
theorem dX8_init_21 : decode cX8_init 21 = .ok (.bipush 16, 2) := by decide +kernel
theorem dX8_init_23 : decode cX8_init 23 = .ok (.newarray .int, 2) := by decide +kernel
theorem dX8_init_25 : decode cX8_init 25 = .ok (.putfield 18, 3) := by decide +kernel
theorem dX8_init_28 : decode cX8_init 28 = .ok (.aload_n 0, 1) := by decide +kernel
theorem dX8_init_29 : decode cX8_init 29 = .ok (.iconst 0, 1) := by decide +kernel
theorem dX8_init_30 : decode cX8_init 30 = .ok (.putfield 21, 3) := by decide +kernel
theorem dX8_init_33 : decode cX8_init 33 = .ok (.aload_n 0, 1) := by decide +kernel
theorem dX8_init_34 : decode cX8_init 34 = .ok (.iconst 0, 1) := by decide +kernel
theorem dX8_init_35 : decode cX8_init 35 = .ok (.putfield 25, 3) := by decide +kernel
theorem dX8_init_38 : decode cX8_init 38 = .ok (.aload_n 0, 1) := by decide +kernel
theorem dX8_init_39 : decode cX8_init 39 = .ok (.getfield 9, 3) := by decide +kernel
theorem dX8_init_42 : decode cX8_init 42 = .ok (.iconst (-1), 1) := by decide +kernel
theorem dX8_init_43 : decode cX8_init 43 = .ok (.invokestatic 29, 3) := by decide +kernel
theorem dX8_init_46 : decode cX8_init 46 = .ok (.return_, 1) := by decide +kernel
theorem dX8_addTrait_0 : decode cX8_addTrait 0 = .ok (.iconst 1, 1) := by decide +kernel
theorem dX8_addTrait_1 : decode cX8_addTrait 1 = .ok (.iload_n 2, 1) := by decide +kernel
theorem dX8_addTrait_2 : decode cX8_addTrait 2 = .ok (.ishl, 1) := by decide +kernel
theorem dX8_addTrait_3 : decode cX8_addTrait 3 = .ok (.istore_n 3, 1) := by decide +kernel
theorem dX8_addTrait_4 : decode cX8_addTrait 4 = .ok (.aload_n 0, 1) := by decide +kernel
theorem dX8_addTrait_5 : decode cX8_addTrait 5 = .ok (.getfield 15, 3) := by decide +kernel
theorem dX8_addTrait_8 : decode cX8_addTrait 8 = .ok (.iload_n 1, 1) := by decide +kernel
theorem dX8_addTrait_9 : decode cX8_addTrait 9 = .ok (.iaload, 1) := by decide +kernel
theorem dX8_addTrait_10 : decode cX8_addTrait 10 = .ok (.iload_n 3, 1) := by decide +kernel
theorem dX8_addTrait_11 : decode cX8_addTrait 11 = .ok (.iand, 1) := by decide +kernel
theorem dX8_addTrait_12 : decode cX8_addTrait 12 = .ok (.ifCond .eq 5, 3) := by decide +kernel
theorem dX8_addTrait_15 : decode cX8_addTrait 15 = .ok (.iconst 0, 1) := by decide +kernel
theorem dX8_addTrait_16 : decode cX8_addTrait 16 = .ok (.ireturn, 1) := by decide +kernel
theorem dX8_addTrait_17 : decode cX8_addTrait 17 = .ok (.aload_n 0, 1) := by decide +kernel
theorem dX8_addTrait_18 : decode cX8_addTrait 18 = .ok (.getfield 15, 3) := by decide +kernel
theorem dX8_addTrait_21 : decode cX8_addTrait 21 = .ok (.iload_n 1, 1) := by decide +kernel
theorem dX8_addTrait_22 : decode cX8_addTrait 22 = .ok (.dup2, 1) := by decide +kernel
theorem dX8_addTrait_23 : decode cX8_addTrait 23 = .ok (.iaload, 1) := by decide +kernel
theorem dX8_addTrait_24 : decode cX8_addTrait 24 = .ok (.iload_n 3, 1) := by decide +kernel
theorem dX8_addTrait_25 : decode cX8_addTrait 25 = .ok (.ior, 1) := by decide +kernel
theorem dX8_addTrait_26 : decode cX8_addTrait 26 = .ok (.iastore, 1) := by decide +kernel
theorem dX8_addTrait_27 : decode cX8_addTrait 27 = .ok (.iconst 1, 1) := by decide +kernel
theorem dX8_addTrait_28 : decode cX8_addTrait 28 = .ok (.ireturn, 1) := by decide +kernel
theorem dX8_isAbstract_0 : decode cX8_isAbstract 0 = .ok (.aload_n 0, 1) := by decide +kernel
theorem dX8_isAbstract_1 : decode cX8_isAbstract 1 = .ok (.getfield 21, 3) := by decide +kernel
theorem dX8_isAbstract_4 : decode cX8_isAbstract 4 = .ok (.iconst 1, 1) := by decide +kernel
theorem dX8_isAbstract_5 : decode cX8_isAbstract 5 = .ok (.iload_n 1, 1) := by decide +kernel
theorem dX8_isAbstract_6 : decode cX8_isAbstract 6 = .ok (.ishl, 1) := by decide +kernel
theorem dX8_isAbstract_7 : decode cX8_isAbstract 7 = .ok (.iand, 1) := by decide +kernel
theorem dX8_isAbstract_8 : decode cX8_isAbstract 8 = .ok (.ifCond .eq 7, 3) := by decide +kernel
theorem dX8_isAbstract_11 : decode cX8_isAbstract 11 = .ok (.iconst 1, 1) := by decide +kernel
theorem dX8_isAbstract_12 : decode cX8_isAbstract 12 = .ok (.goto 4, 3) := by decide +kernel
theorem dX8_isAbstract_15 : decode cX8_isAbstract 15 = .ok (.iconst 0, 1) := by decide +kernel
theorem dX8_isAbstract_16 : decode cX8_isAbstract 16 = .ok (.ireturn, 1) := by decide +kernel
theorem dX8_findReach_0 : decode cX8_findReach 0 = .ok (.iconst 0, 1) := by decide +kernel
theorem dX8_findReach_1 : decode cX8_findReach 1 = .ok (.istore_n 1, 1) := by decide +kernel
theorem dX8_findReach_2 : decode cX8_findReach 2 = .ok (.iload_n 1, 1) := by decide +kernel
theorem dX8_findReach_3 : decode cX8_findReach 3 = .ok (.bipush 16, 2) := by decide +kernel
theorem dX8_findReach_5 : decode cX8_findReach 5 = .ok (.if_icmp .ge 54, 3) := by decide +kernel
theorem dX8_findReach_8 : decode cX8_findReach 8 = .ok (.aload_n 0, 1) := by decide +kernel
theorem dX8_findReach_9 : decode cX8_findReach 9 = .ok (.getfield 18, 3) := by decide +kernel
theorem dX8_findReach_12 : decode cX8_findReach 12 = .ok (.iload_n 1, 1) := by decide +kernel
theorem dX8_findReach_13 : decode cX8_findReach 13 = .ok (.aload_n 0, 1) := by decide +kernel
theorem dX8_findReach_14 : decode cX8_findReach 14 = .ok (.getfield 15, 3) := by decide +kernel
theorem dX8_findReach_17 : decode cX8_findReach 17 = .ok (.iload_n 1, 1) := by decide +kernel
theorem dX8_findReach_18 : decode cX8_findReach 18 = .ok (.iaload, 1) := by decide +kernel
theorem dX8_findReach_19 : decode cX8_findReach 19 = .ok (.iastore, 1) := by decide +kernel
theorem dX8_findReach_20 : decode cX8_findReach 20 = .ok (.iload_n 1, 1) := by decide +kernel
theorem dX8_findReach_21 : decode cX8_findReach 21 = .ok (.bipush 12, 2) := by decide +kernel
theorem dX8_findReach_23 : decode cX8_findReach 23 = .ok (.if_icmp .ge 30, 3) := by decide +kernel
theorem dX8_findReach_26 : decode cX8_findReach 26 = .ok (.aload_n 0, 1) := by decide +kernel
theorem dX8_findReach_27 : decode cX8_findReach 27 = .ok (.getfield 9, 3) := by decide +kernel
theorem dX8_findReach_30 : decode cX8_findReach 30 = .ok (.iload_n 1, 1) := by decide +kernel
theorem dX8_findReach_31 : decode cX8_findReach 31 = .ok (.iaload, 1) := by decide +kernel
theorem dX8_findReach_32 : decode cX8_findReach 32 = .ok (.iconst (-1), 1) := by decide +kernel
theorem dX8_findReach_33 : decode cX8_findReach 33 = .ok (.if_icmp .eq 20, 3) := by decide +kernel
theorem dX8_findReach_36 : decode cX8_findReach 36 = .ok (.aload_n 0, 1) := by decide +kernel
theorem dX8_findReach_37 : decode cX8_findReach 37 = .ok (.getfield 18, 3) := by decide +kernel
theorem dX8_findReach_40 : decode cX8_findReach 40 = .ok (.iload_n 1, 1) := by decide +kernel
theorem dX8_findReach_41 : decode cX8_findReach 41 = .ok (.dup2, 1) := by decide +kernel
theorem dX8_findReach_42 : decode cX8_findReach 42 = .ok (.iaload, 1) := by decide +kernel
theorem dX8_findReach_43 : decode cX8_findReach 43 = .ok (.iconst 1, 1) := by decide +kernel
theorem dX8_findReach_44 : decode cX8_findReach 44 = .ok (.aload_n 0, 1) := by decide +kernel
theorem dX8_findReach_45 : decode cX8_findReach 45 = .ok (.getfield 9, 3) := by decide +kernel
theorem dX8_findReach_48 : decode cX8_findReach 48 = .ok (.iload_n 1, 1) := by decide +kernel
theorem dX8_findReach_49 : decode cX8_findReach 49 = .ok (.iaload, 1) := by decide +kernel
theorem dX8_findReach_50 : decode cX8_findReach 50 = .ok (.ishl, 1) := by decide +kernel
theorem dX8_findReach_51 : decode cX8_findReach 51 = .ok (.ior, 1) := by decide +kernel
theorem dX8_findReach_52 : decode cX8_findReach 52 = .ok (.iastore, 1) := by decide +kernel
theorem dX8_findReach_53 : decode cX8_findReach 53 = .ok (.iinc 1 1, 3) := by decide +kernel
theorem dX8_findReach_56 : decode cX8_findReach 56 = .ok (.goto (-54), 3) := by decide +kernel
theorem dX8_findReach_59 : decode cX8_findReach 59 = .ok (.iconst 0, 1) := by decide +kernel
theorem dX8_findReach_60 : decode cX8_findReach 60 = .ok (.istore_n 1, 1) := by decide +kernel
theorem dX8_findReach_61 : decode cX8_findReach 61 = .ok (.iload_n 1, 1) := by decide +kernel
theorem dX8_findReach_62 : decode cX8_findReach 62 = .ok (.bipush 16, 2) := by decide +kernel
theorem dX8_findReach_64 : decode cX8_findReach 64 = .ok (.if_icmp .ge 51, 3) := by decide +kernel
theorem dX8_findReach_67 : decode cX8_findReach 67 = .ok (.iconst 0, 1) := by decide +kernel
theorem dX8_findReach_68 : decode cX8_findReach 68 = .ok (.istore_n 2, 1) := by decide +kernel
theorem dX8_findReach_69 : decode cX8_findReach 69 = .ok (.iload_n 2, 1) := by decide +kernel
theorem dX8_findReach_70 : decode cX8_findReach 70 = .ok (.bipush 16, 2) := by decide +kernel
theorem dX8_findReach_72 : decode cX8_findReach 72 = .ok (.if_icmp .ge 37, 3) := by decide +kernel
theorem dX8_findReach_75 : decode cX8_findReach 75 = .ok (.aload_n 0, 1) := by decide +kernel
theorem dX8_findReach_76 : decode cX8_findReach 76 = .ok (.getfield 18, 3) := by decide +kernel
theorem dX8_findReach_79 : decode cX8_findReach 79 = .ok (.iload_n 2, 1) := by decide +kernel
theorem dX8_findReach_80 : decode cX8_findReach 80 = .ok (.iaload, 1) := by decide +kernel
theorem dX8_findReach_81 : decode cX8_findReach 81 = .ok (.iconst 1, 1) := by decide +kernel
theorem dX8_findReach_82 : decode cX8_findReach 82 = .ok (.iload_n 1, 1) := by decide +kernel
theorem dX8_findReach_83 : decode cX8_findReach 83 = .ok (.ishl, 1) := by decide +kernel
theorem dX8_findReach_84 : decode cX8_findReach 84 = .ok (.iand, 1) := by decide +kernel
theorem dX8_findReach_85 : decode cX8_findReach 85 = .ok (.ifCond .eq 18, 3) := by decide +kernel
theorem dX8_findReach_88 : decode cX8_findReach 88 = .ok (.aload_n 0, 1) := by decide +kernel
theorem dX8_findReach_89 : decode cX8_findReach 89 = .ok (.getfield 18, 3) := by decide +kernel
theorem dX8_findReach_92 : decode cX8_findReach 92 = .ok (.iload_n 2, 1) := by decide +kernel
theorem dX8_findReach_93 : decode cX8_findReach 93 = .ok (.dup2, 1) := by decide +kernel
theorem dX8_findReach_94 : decode cX8_findReach 94 = .ok (.iaload, 1) := by decide +kernel
theorem dX8_findReach_95 : decode cX8_findReach 95 = .ok (.aload_n 0, 1) := by decide +kernel
theorem dX8_findReach_96 : decode cX8_findReach 96 = .ok (.getfield 18, 3) := by decide +kernel
theorem dX8_findReach_99 : decode cX8_findReach 99 = .ok (.iload_n 1, 1) := by decide +kernel
theorem dX8_findReach_100 : decode cX8_findReach 100 = .ok (.iaload, 1) := by decide +kernel
theorem dX8_findReach_101 : decode cX8_findReach 101 = .ok (.ior, 1) := by decide +kernel
theorem dX8_findReach_102 : decode cX8_findReach 102 = .ok (.iastore, 1) := by decide +kernel
theorem dX8_findReach_103 : decode cX8_findReach 103 = .ok (.iinc 2 1, 3) := by decide +kernel
theorem dX8_findReach_106 : decode cX8_findReach 106 = .ok (.goto (-37), 3) := by decide +kernel
theorem dX8_findReach_109 : decode cX8_findReach 109 = .ok (.iinc 1 1, 3) := by decide +kernel
theorem dX8_findReach_112 : decode cX8_findReach 112 = .ok (.goto (-51), 3) := by decide +kernel
theorem dX8_findReach_115 : decode cX8_findReach 115 = .ok (.return_, 1) := by decide +kernel
theorem dX8_goesRound_0 : decode cX8_goesRound 0 = .ok (.iconst 0, 1) := by decide +kernel
theorem dX8_goesRound_1 : decode cX8_goesRound 1 = .ok (.istore_n 1, 1) := by decide +kernel
theorem dX8_goesRound_2 : decode cX8_goesRound 2 = .ok (.iload_n 1, 1) := by decide +kernel
theorem dX8_goesRound_3 : decode cX8_goesRound 3 = .ok (.bipush 16, 2) := by decide +kernel
theorem dX8_goesRound_5 : decode cX8_goesRound 5 = .ok (.if_icmp .ge 24, 3) := by decide +kernel
theorem dX8_goesRound_8 : decode cX8_goesRound 8 = .ok (.aload_n 0, 1) := by decide +kernel
theorem dX8_goesRound_9 : decode cX8_goesRound 9 = .ok (.getfield 18, 3) := by decide +kernel
theorem dX8_goesRound_12 : decode cX8_goesRound 12 = .ok (.iload_n 1, 1) := by decide +kernel
theorem dX8_goesRound_13 : decode cX8_goesRound 13 = .ok (.iaload, 1) := by decide +kernel
theorem dX8_goesRound_14 : decode cX8_goesRound 14 = .ok (.iconst 1, 1) := by decide +kernel
theorem dX8_goesRound_15 : decode cX8_goesRound 15 = .ok (.iload_n 1, 1) := by decide +kernel
theorem dX8_goesRound_16 : decode cX8_goesRound 16 = .ok (.ishl, 1) := by decide +kernel
theorem dX8_goesRound_17 : decode cX8_goesRound 17 = .ok (.iand, 1) := by decide +kernel
theorem dX8_goesRound_18 : decode cX8_goesRound 18 = .ok (.ifCond .eq 5, 3) := by decide +kernel
theorem dX8_goesRound_21 : decode cX8_goesRound 21 = .ok (.iconst 1, 1) := by decide +kernel
theorem dX8_goesRound_22 : decode cX8_goesRound 22 = .ok (.ireturn, 1) := by decide +kernel
theorem dX8_goesRound_23 : decode cX8_goesRound 23 = .ok (.iinc 1 1, 3) := by decide +kernel
theorem dX8_goesRound_26 : decode cX8_goesRound 26 = .ok (.goto (-24), 3) := by decide +kernel
theorem dX8_goesRound_29 : decode cX8_goesRound 29 = .ok (.iconst 0, 1) := by decide +kernel
theorem dX8_goesRound_30 : decode cX8_goesRound 30 = .ok (.ireturn, 1) := by decide +kernel
theorem dX8_isBelow_0 : decode cX8_isBelow 0 = .ok (.iload_n 1, 1) := by decide +kernel
theorem dX8_isBelow_1 : decode cX8_isBelow 1 = .ok (.iload_n 2, 1) := by decide +kernel
theorem dX8_isBelow_2 : decode cX8_isBelow 2 = .ok (.if_icmp .eq 16, 3) := by decide +kernel
theorem dX8_isBelow_5 : decode cX8_isBelow 5 = .ok (.aload_n 0, 1) := by decide +kernel
theorem dX8_isBelow_6 : decode cX8_isBelow 6 = .ok (.getfield 18, 3) := by decide +kernel
theorem dX8_isBelow_9 : decode cX8_isBelow 9 = .ok (.iload_n 1, 1) := by decide +kernel
theorem dX8_isBelow_10 : decode cX8_isBelow 10 = .ok (.iaload, 1) := by decide +kernel
theorem dX8_isBelow_11 : decode cX8_isBelow 11 = .ok (.iconst 1, 1) := by decide +kernel
theorem dX8_isBelow_12 : decode cX8_isBelow 12 = .ok (.iload_n 2, 1) := by decide +kernel
theorem dX8_isBelow_13 : decode cX8_isBelow 13 = .ok (.ishl, 1) := by decide +kernel
theorem dX8_isBelow_14 : decode cX8_isBelow 14 = .ok (.iand, 1) := by decide +kernel
theorem dX8_isBelow_15 : decode cX8_isBelow 15 = .ok (.ifCond .eq 7, 3) := by decide +kernel
theorem dX8_isBelow_18 : decode cX8_isBelow 18 = .ok (.iconst 1, 1) := by decide +kernel
theorem dX8_isBelow_19 : decode cX8_isBelow 19 = .ok (.goto 4, 3) := by decide +kernel
theorem dX8_isBelow_22 : decode cX8_isBelow 22 = .ok (.iconst 0, 1) := by decide +kernel
theorem dX8_isBelow_23 : decode cX8_isBelow 23 = .ok (.ireturn, 1) := by decide +kernel
theorem dX9_init_0 : decode cX9_init 0 = .ok (.aload_n 0, 1) := by decide +kernel
theorem dX9_init_1 : decode cX9_init 1 = .ok (.invokespecial 3, 3) := by decide +kernel
theorem dX9_init_4 : decode cX9_init 4 = .ok (.aload_n 0, 1) := by decide +kernel
theorem dX9_init_5 : decode cX9_init 5 = .ok (.new 9, 3) := by decide +kernel
theorem dX9_init_8 : decode cX9_init 8 = .ok (.dup, 1) := by decide +kernel
theorem dX9_init_9 : decode cX9_init 9 = .ok (.invokespecial 11, 3) := by decide +kernel
theorem dX9_init_12 : decode cX9_init 12 = .ok (.putfield 12, 3) := by decide +kernel
theorem dX9_init_15 : decode cX9_init 15 = .ok (.aload_n 0, 1) := by decide +kernel
theorem dX9_init_16 : decode cX9_init 16 = .ok (.new 16, 3) := by decide +kernel
theorem dX9_init_19 : decode cX9_init 19 = .ok (.dup, 1) := by decide +kernel
theorem dX9_init_20 : decode cX9_init 20 = .ok (.invokespecial 18, 3) := by decide +kernel
theorem dX9_init_23 : decode cX9_init 23 = .ok (.putfield 19, 3) := by decide +kernel
theorem dX9_init_26 : decode cX9_init 26 = .ok (.aload_n 0, 1) := by decide +kernel
theorem dX9_init_27 : decode cX9_init 27 = .ok (.iconst 4, 1) := by decide +kernel
theorem dX9_init_28 : decode cX9_init 28 = .ok (.anewarray 23, 3) := by decide +kernel
theorem dX9_init_31 : decode cX9_init 31 = .ok (.putfield 25, 3) := by decide +kernel
theorem dX9_init_34 : decode cX9_init 34 = .ok (.aload_n 0, 1) := by decide +kernel
theorem dX9_init_35 : decode cX9_init 35 = .ok (.bipush 40, 2) := by decide +kernel
theorem dX9_init_37 : decode cX9_init 37 = .ok (.anewarray 29, 3) := by decide +kernel
theorem dX9_init_40 : decode cX9_init 40 = .ok (.putfield 31, 3) := by decide +kernel
theorem dX9_init_43 : decode cX9_init 43 = .ok (.aload_n 0, 1) := by decide +kernel
theorem dX9_init_44 : decode cX9_init 44 = .ok (.iconst 2, 1) := by decide +kernel
theorem dX9_init_45 : decode cX9_init 45 = .ok (.newarray .int, 2) := by decide +kernel
theorem dX9_init_47 : decode cX9_init 47 = .ok (.dup, 1) := by decide +kernel
theorem dX9_init_48 : decode cX9_init 48 = .ok (.iconst 0, 1) := by decide +kernel
theorem dX9_init_49 : decode cX9_init 49 = .ok (.iconst (-1), 1) := by decide +kernel
theorem dX9_init_50 : decode cX9_init 50 = .ok (.iastore, 1) := by decide +kernel
theorem dX9_init_51 : decode cX9_init 51 = .ok (.dup, 1) := by decide +kernel
theorem dX9_init_52 : decode cX9_init 52 = .ok (.iconst 1, 1) := by decide +kernel
theorem dX9_init_53 : decode cX9_init 53 = .ok (.iconst (-1), 1) := by decide +kernel
theorem dX9_init_54 : decode cX9_init 54 = .ok (.iastore, 1) := by decide +kernel
theorem dX9_init_55 : decode cX9_init 55 = .ok (.putfield 35, 3) := by decide +kernel
theorem dX9_init_58 : decode cX9_init 58 = .ok (.aload_n 0, 1) := by decide +kernel
theorem dX9_init_59 : decode cX9_init 59 = .ok (.bipush 8, 2) := by decide +kernel
theorem dX9_init_61 : decode cX9_init 61 = .ok (.newarray .int, 2) := by decide +kernel
theorem dX9_init_63 : decode cX9_init 63 = .ok (.putfield 39, 3) := by decide +kernel
theorem dX9_init_66 : decode cX9_init 66 = .ok (.aload_n 0, 1) := by decide +kernel
theorem dX9_init_67 : decode cX9_init 67 = .ok (.new 42, 3) := by decide +kernel
theorem dX9_init_70 : decode cX9_init 70 = .ok (.dup, 1) := by decide +kernel
theorem dX9_init_71 : decode cX9_init 71 = .ok (.invokespecial 44, 3) := by decide +kernel
theorem dX9_init_74 : decode cX9_init 74 = .ok (.putfield 45, 3) := by decide +kernel
theorem dX9_init_77 : decode cX9_init 77 = .ok (.aload_n 0, 1) := by decide +kernel
theorem dX9_init_78 : decode cX9_init 78 = .ok (.new 49, 3) := by decide +kernel
theorem dX9_init_81 : decode cX9_init 81 = .ok (.dup, 1) := by decide +kernel
theorem dX9_init_82 : decode cX9_init 82 = .ok (.invokespecial 51, 3) := by decide +kernel
theorem dX9_init_85 : decode cX9_init 85 = .ok (.putfield 52, 3) := by decide +kernel
theorem dX9_init_88 : decode cX9_init 88 = .ok (.aload_n 0, 1) := by decide +kernel
theorem dX9_init_89 : decode cX9_init 89 = .ok (.new 56, 3) := by decide +kernel
theorem dX9_init_92 : decode cX9_init 92 = .ok (.dup, 1) := by decide +kernel
theorem dX9_init_93 : decode cX9_init 93 = .ok (.invokespecial 58, 3) := by decide +kernel
theorem dX9_init_96 : decode cX9_init 96 = .ok (.putfield 59, 3) := by decide +kernel
theorem dX9_init_99 : decode cX9_init 99 = .ok (.aload_n 0, 1) := by decide +kernel
theorem dX9_init_100 : decode cX9_init 100 = .ok (.iconst 0, 1) := by decide +kernel
theorem dX9_init_101 : decode cX9_init 101 = .ok (.putfield 63, 3) := by decide +kernel
theorem dX9_init_104 : decode cX9_init 104 = .ok (.aload_n 0, 1) := by decide +kernel
theorem dX9_init_105 : decode cX9_init 105 = .ok (.iconst 0, 1) := by decide +kernel
theorem dX9_init_106 : decode cX9_init 106 = .ok (.putfield 67, 3) := by decide +kernel
theorem dX9_init_109 : decode cX9_init 109 = .ok (.aload_n 0, 1) := by decide +kernel
theorem dX9_init_110 : decode cX9_init 110 = .ok (.iconst (-1), 1) := by decide +kernel
theorem dX9_init_111 : decode cX9_init 111 = .ok (.putfield 70, 3) := by decide +kernel
theorem dX9_init_114 : decode cX9_init 114 = .ok (.return_, 1) := by decide +kernel
theorem dX9_parent_0 : decode cX9_parent 0 = .ok (.iload_n 1, 1) := by decide +kernel
theorem dX9_parent_1 : decode cX9_parent 1 = .ok (.invokestatic 73, 3) := by decide +kernel
theorem dX9_parent_4 : decode cX9_parent 4 = .ok (.ifCond .eq 15, 3) := by decide +kernel
theorem dX9_parent_7 : decode cX9_parent 7 = .ok (.iload_n 2, 1) := by decide +kernel
theorem dX9_parent_8 : decode cX9_parent 8 = .ok (.iconst (-1), 1) := by decide +kernel
theorem dX9_parent_9 : decode cX9_parent 9 = .ok (.if_icmp .eq 13, 3) := by decide +kernel
theorem dX9_parent_12 : decode cX9_parent 12 = .ok (.iload_n 2, 1) := by decide +kernel
theorem dX9_parent_13 : decode cX9_parent 13 = .ok (.invokestatic 73, 3) := by decide +kernel
theorem dX9_parent_16 : decode cX9_parent 16 = .ok (.ifCond .ne 6, 3) := by decide +kernel
theorem dX9_parent_19 : decode cX9_parent 19 = .ok (.bipush (-2), 2) := by decide +kernel
theorem dX9_parent_21 : decode cX9_parent 21 = .ok (.ireturn, 1) := by decide +kernel
theorem dX9_parent_22 : decode cX9_parent 22 = .ok (.aload_n 0, 1) := by decide +kernel
theorem dX9_parent_23 : decode cX9_parent 23 = .ok (.getfield 12, 3) := by decide +kernel
theorem dX9_parent_26 : decode cX9_parent 26 = .ok (.getfield 77, 3) := by decide +kernel
theorem dX9_parent_29 : decode cX9_parent 29 = .ok (.ifCond .eq 6, 3) := by decide +kernel
theorem dX9_parent_32 : decode cX9_parent 32 = .ok (.bipush (-3), 2) := by decide +kernel
theorem dX9_parent_34 : decode cX9_parent 34 = .ok (.ireturn, 1) := by decide +kernel
theorem dX9_parent_35 : decode cX9_parent 35 = .ok (.aload_n 0, 1) := by decide +kernel
theorem dX9_parent_36 : decode cX9_parent 36 = .ok (.getfield 12, 3) := by decide +kernel
theorem dX9_parent_39 : decode cX9_parent 39 = .ok (.getfield 81, 3) := by decide +kernel
theorem dX9_parent_42 : decode cX9_parent 42 = .ok (.iload_n 1, 1) := by decide +kernel
theorem dX9_parent_43 : decode cX9_parent 43 = .ok (.iload_n 2, 1) := by decide +kernel
theorem dX9_parent_44 : decode cX9_parent 44 = .ok (.iastore, 1) := by decide +kernel
theorem dX9_parent_45 : decode cX9_parent 45 = .ok (.iconst 1, 1) := by decide +kernel
theorem dX9_parent_46 : decode cX9_parent 46 = .ok (.ireturn, 1) := by decide +kernel
theorem dX9_trait_0 : decode cX9_trait 0 = .ok (.iload_n 1, 1) := by decide +kernel
theorem dX9_trait_1 : decode cX9_trait 1 = .ok (.invokestatic 84, 3) := by decide +kernel
theorem dX9_trait_4 : decode cX9_trait 4 = .ok (.ifCond .eq 10, 3) := by decide +kernel
theorem dX9_trait_7 : decode cX9_trait 7 = .ok (.iload_n 2, 1) := by decide +kernel
theorem dX9_trait_8 : decode cX9_trait 8 = .ok (.invokestatic 84, 3) := by decide +kernel
theorem dX9_trait_11 : decode cX9_trait 11 = .ok (.ifCond .ne 6, 3) := by decide +kernel
theorem dX9_trait_14 : decode cX9_trait 14 = .ok (.bipush (-2), 2) := by decide +kernel
theorem dX9_trait_16 : decode cX9_trait 16 = .ok (.ireturn, 1) := by decide +kernel
theorem dX9_trait_17 : decode cX9_trait 17 = .ok (.aload_n 0, 1) := by decide +kernel
theorem dX9_trait_18 : decode cX9_trait 18 = .ok (.getfield 12, 3) := by decide +kernel
theorem dX9_trait_21 : decode cX9_trait 21 = .ok (.getfield 77, 3) := by decide +kernel
theorem dX9_trait_24 : decode cX9_trait 24 = .ok (.ifCond .eq 8, 3) := by decide +kernel
theorem dX9_trait_27 : decode cX9_trait 27 = .ok (.bipush (-3), 2) := by decide +kernel
theorem dX9_trait_29 : decode cX9_trait 29 = .ok (.goto 12, 3) := by decide +kernel
theorem dX9_trait_32 : decode cX9_trait 32 = .ok (.aload_n 0, 1) := by decide +kernel
theorem dX9_trait_33 : decode cX9_trait 33 = .ok (.getfield 12, 3) := by decide +kernel
theorem dX9_trait_36 : decode cX9_trait 36 = .ok (.iload_n 1, 1) := by decide +kernel
theorem dX9_trait_37 : decode cX9_trait 37 = .ok (.iload_n 2, 1) := by decide +kernel
theorem dX9_trait_38 : decode cX9_trait 38 = .ok (.invokevirtual 87, 3) := by decide +kernel
theorem dX9_trait_41 : decode cX9_trait 41 = .ok (.ireturn, 1) := by decide +kernel
theorem dX9_has_0 : decode cX9_has 0 = .ok (.iload_n 1, 1) := by decide +kernel
theorem dX9_has_1 : decode cX9_has 1 = .ok (.invokestatic 73, 3) := by decide +kernel
theorem dX9_has_4 : decode cX9_has 4 = .ok (.ifCond .eq 10, 3) := by decide +kernel
theorem dX9_has_7 : decode cX9_has 7 = .ok (.iload_n 2, 1) := by decide +kernel
theorem dX9_has_8 : decode cX9_has 8 = .ok (.invokestatic 84, 3) := by decide +kernel
theorem dX9_has_11 : decode cX9_has 11 = .ok (.ifCond .ne 6, 3) := by decide +kernel
theorem dX9_has_14 : decode cX9_has 14 = .ok (.bipush (-2), 2) := by decide +kernel
theorem dX9_has_16 : decode cX9_has 16 = .ok (.ireturn, 1) := by decide +kernel
theorem dX9_has_17 : decode cX9_has 17 = .ok (.aload_n 0, 1) := by decide +kernel
theorem dX9_has_18 : decode cX9_has 18 = .ok (.getfield 12, 3) := by decide +kernel
theorem dX9_has_21 : decode cX9_has 21 = .ok (.getfield 77, 3) := by decide +kernel
theorem dX9_has_24 : decode cX9_has 24 = .ok (.ifCond .eq 8, 3) := by decide +kernel
theorem dX9_has_27 : decode cX9_has 27 = .ok (.bipush (-3), 2) := by decide +kernel
theorem dX9_has_29 : decode cX9_has 29 = .ok (.goto 12, 3) := by decide +kernel
theorem dX9_has_32 : decode cX9_has 32 = .ok (.aload_n 0, 1) := by decide +kernel
theorem dX9_has_33 : decode cX9_has 33 = .ok (.getfield 12, 3) := by decide +kernel
theorem dX9_has_36 : decode cX9_has 36 = .ok (.iload_n 1, 1) := by decide +kernel
theorem dX9_has_37 : decode cX9_has 37 = .ok (.iload_n 2, 1) := by decide +kernel
theorem dX9_has_38 : decode cX9_has 38 = .ok (.invokevirtual 87, 3) := by decide +kernel
theorem dX9_has_41 : decode cX9_has 41 = .ok (.ireturn, 1) := by decide +kernel
theorem dX9_flag_0 : decode cX9_flag 0 = .ok (.iload_n 1, 1) := by decide +kernel
theorem dX9_flag_1 : decode cX9_flag 1 = .ok (.invokestatic 73, 3) := by decide +kernel
theorem dX9_flag_4 : decode cX9_flag 4 = .ok (.ifCond .ne 6, 3) := by decide +kernel
theorem dX9_flag_7 : decode cX9_flag 7 = .ok (.bipush (-2), 2) := by decide +kernel
theorem dX9_flag_9 : decode cX9_flag 9 = .ok (.ireturn, 1) := by decide +kernel
theorem dX9_flag_10 : decode cX9_flag 10 = .ok (.aload_n 0, 1) := by decide +kernel
theorem dX9_flag_11 : decode cX9_flag 11 = .ok (.getfield 12, 3) := by decide +kernel
theorem dX9_flag_14 : decode cX9_flag 14 = .ok (.getfield 77, 3) := by decide +kernel
theorem dX9_flag_17 : decode cX9_flag 17 = .ok (.ifCond .eq 6, 3) := by decide +kernel
theorem dX9_flag_20 : decode cX9_flag 20 = .ok (.bipush (-3), 2) := by decide +kernel
theorem dX9_flag_22 : decode cX9_flag 22 = .ok (.ireturn, 1) := by decide +kernel
theorem dX9_flag_23 : decode cX9_flag 23 = .ok (.aload_n 0, 1) := by decide +kernel
theorem dX9_flag_24 : decode cX9_flag 24 = .ok (.getfield 12, 3) := by decide +kernel
theorem dX9_flag_27 : decode cX9_flag 27 = .ok (.iload_n 1, 1) := by decide +kernel
theorem dX9_flag_28 : decode cX9_flag 28 = .ok (.invokevirtual 91, 3) := by decide +kernel
theorem dX9_flag_31 : decode cX9_flag 31 = .ok (.ifCond .eq 5, 3) := by decide +kernel
theorem dX9_flag_34 : decode cX9_flag 34 = .ok (.iconst 0, 1) := by decide +kernel
theorem dX9_flag_35 : decode cX9_flag 35 = .ok (.ireturn, 1) := by decide +kernel
theorem dX9_flag_36 : decode cX9_flag 36 = .ok (.aload_n 0, 1) := by decide +kernel
theorem dX9_flag_37 : decode cX9_flag 37 = .ok (.getfield 12, 3) := by decide +kernel
theorem dX9_flag_40 : decode cX9_flag 40 = .ok (.dup, 1) := by decide +kernel
theorem dX9_flag_41 : decode cX9_flag 41 = .ok (.getfield 94, 3) := by decide +kernel
theorem dX9_flag_44 : decode cX9_flag 44 = .ok (.iconst 1, 1) := by decide +kernel
theorem dX9_flag_45 : decode cX9_flag 45 = .ok (.iload_n 1, 1) := by decide +kernel
theorem dX9_flag_46 : decode cX9_flag 46 = .ok (.ishl, 1) := by decide +kernel
theorem dX9_flag_47 : decode cX9_flag 47 = .ok (.ior, 1) := by decide +kernel
theorem dX9_flag_48 : decode cX9_flag 48 = .ok (.putfield 94, 3) := by decide +kernel
theorem dX9_flag_51 : decode cX9_flag 51 = .ok (.iconst 1, 1) := by decide +kernel
theorem dX9_flag_52 : decode cX9_flag 52 = .ok (.ireturn, 1) := by decide +kernel
theorem dX9_close_0 : decode cX9_close 0 = .ok (.aload_n 0, 1) := by decide +kernel
theorem dX9_close_1 : decode cX9_close 1 = .ok (.getfield 12, 3) := by decide +kernel
theorem dX9_close_4 : decode cX9_close 4 = .ok (.getfield 77, 3) := by decide +kernel
theorem dX9_close_7 : decode cX9_close 7 = .ok (.ifCond .eq 6, 3) := by decide +kernel
theorem dX9_close_10 : decode cX9_close 10 = .ok (.bipush (-3), 2) := by decide +kernel
theorem dX9_close_12 : decode cX9_close 12 = .ok (.ireturn, 1) := by decide +kernel
theorem dX9_close_13 : decode cX9_close 13 = .ok (.aload_n 0, 1) := by decide +kernel
theorem dX9_close_14 : decode cX9_close 14 = .ok (.getfield 12, 3) := by decide +kernel
theorem dX9_close_17 : decode cX9_close 17 = .ok (.invokevirtual 97, 3) := by decide +kernel
theorem dX9_close_20 : decode cX9_close 20 = .ok (.aload_n 0, 1) := by decide +kernel
theorem dX9_close_21 : decode cX9_close 21 = .ok (.getfield 12, 3) := by decide +kernel
theorem dX9_close_24 : decode cX9_close 24 = .ok (.invokevirtual 100, 3) := by decide +kernel
theorem dX9_close_27 : decode cX9_close 27 = .ok (.ifCond .eq 6, 3) := by decide +kernel
theorem dX9_close_30 : decode cX9_close 30 = .ok (.bipush (-5), 2) := by decide +kernel
theorem dX9_close_32 : decode cX9_close 32 = .ok (.ireturn, 1) := by decide +kernel
theorem dX9_close_33 : decode cX9_close 33 = .ok (.aload_n 0, 1) := by decide +kernel
theorem dX9_close_34 : decode cX9_close 34 = .ok (.getfield 12, 3) := by decide +kernel
theorem dX9_close_37 : decode cX9_close 37 = .ok (.iconst 1, 1) := by decide +kernel
theorem dX9_close_38 : decode cX9_close 38 = .ok (.putfield 77, 3) := by decide +kernel
theorem dX9_close_41 : decode cX9_close 41 = .ok (.iconst 1, 1) := by decide +kernel
theorem dX9_close_42 : decode cX9_close 42 = .ok (.ireturn, 1) := by decide +kernel
theorem dX9_below_0 : decode cX9_below 0 = .ok (.aload_n 0, 1) := by decide +kernel
theorem dX9_below_1 : decode cX9_below 1 = .ok (.getfield 12, 3) := by decide +kernel
theorem dX9_below_4 : decode cX9_below 4 = .ok (.getfield 77, 3) := by decide +kernel
theorem dX9_below_7 : decode cX9_below 7 = .ok (.ifCond .eq 33, 3) := by decide +kernel
theorem dX9_below_10 : decode cX9_below 10 = .ok (.iload_n 1, 1) := by decide +kernel
theorem dX9_below_11 : decode cX9_below 11 = .ok (.invokestatic 104, 3) := by decide +kernel
theorem dX9_below_14 : decode cX9_below 14 = .ok (.ifCond .eq 26, 3) := by decide +kernel
theorem dX9_below_17 : decode cX9_below 17 = .ok (.iload_n 2, 1) := by decide +kernel
theorem dX9_below_18 : decode cX9_below 18 = .ok (.invokestatic 104, 3) := by decide +kernel
theorem dX9_below_21 : decode cX9_below 21 = .ok (.ifCond .eq 19, 3) := by decide +kernel
theorem dX9_below_24 : decode cX9_below 24 = .ok (.aload_n 0, 1) := by decide +kernel
theorem dX9_below_25 : decode cX9_below 25 = .ok (.getfield 12, 3) := by decide +kernel
theorem dX9_below_28 : decode cX9_below 28 = .ok (.iload_n 1, 1) := by decide +kernel
theorem dX9_below_29 : decode cX9_below 29 = .ok (.iload_n 2, 1) := by decide +kernel
theorem dX9_below_30 : decode cX9_below 30 = .ok (.invokevirtual 107, 3) := by decide +kernel
theorem dX9_below_33 : decode cX9_below 33 = .ok (.ifCond .eq 7, 3) := by decide +kernel
theorem dX9_below_36 : decode cX9_below 36 = .ok (.iconst 1, 1) := by decide +kernel
theorem dX9_below_37 : decode cX9_below 37 = .ok (.goto 4, 3) := by decide +kernel
theorem dX9_below_40 : decode cX9_below 40 = .ok (.iconst 0, 1) := by decide +kernel
theorem dX9_below_41 : decode cX9_below 41 = .ok (.ireturn, 1) := by decide +kernel
theorem dX9_sample_0 : decode cX9_sample 0 = .ok (.iload_n 1, 1) := by decide +kernel
theorem dX9_sample_1 : decode cX9_sample 1 = .ok (.invokestatic 73, 3) := by decide +kernel
theorem dX9_sample_4 : decode cX9_sample 4 = .ok (.ifCond .ne 6, 3) := by decide +kernel
theorem dX9_sample_7 : decode cX9_sample 7 = .ok (.bipush (-2), 2) := by decide +kernel
theorem dX9_sample_9 : decode cX9_sample 9 = .ok (.ireturn, 1) := by decide +kernel
theorem dX9_sample_10 : decode cX9_sample 10 = .ok (.aload_n 0, 1) := by decide +kernel
theorem dX9_sample_11 : decode cX9_sample 11 = .ok (.getfield 12, 3) := by decide +kernel
theorem dX9_sample_14 : decode cX9_sample 14 = .ok (.getfield 77, 3) := by decide +kernel
theorem dX9_sample_17 : decode cX9_sample 17 = .ok (.ifCond .ne 6, 3) := by decide +kernel
theorem dX9_sample_20 : decode cX9_sample 20 = .ok (.bipush (-3), 2) := by decide +kernel
theorem dX9_sample_22 : decode cX9_sample 22 = .ok (.ireturn, 1) := by decide +kernel
theorem dX9_sample_23 : decode cX9_sample 23 = .ok (.aload_n 0, 1) := by decide +kernel
theorem dX9_sample_24 : decode cX9_sample 24 = .ok (.getfield 12, 3) := by decide +kernel
theorem dX9_sample_27 : decode cX9_sample 27 = .ok (.iload_n 1, 1) := by decide +kernel
theorem dX9_sample_28 : decode cX9_sample 28 = .ok (.invokevirtual 91, 3) := by decide +kernel
theorem dX9_sample_31 : decode cX9_sample 31 = .ok (.ifCond .eq 6, 3) := by decide +kernel
theorem dX9_sample_34 : decode cX9_sample 34 = .ok (.bipush (-6), 2) := by decide +kernel
theorem dX9_sample_36 : decode cX9_sample 36 = .ok (.ireturn, 1) := by decide +kernel
theorem dX9_sample_37 : decode cX9_sample 37 = .ok (.aload_n 0, 1) := by decide +kernel
theorem dX9_sample_38 : decode cX9_sample 38 = .ok (.getfield 19, 3) := by decide +kernel
theorem dX9_sample_41 : decode cX9_sample 41 = .ok (.iload_n 1, 1) := by decide +kernel
theorem dX9_sample_42 : decode cX9_sample 42 = .ok (.iload_n 2, 1) := by decide +kernel
theorem dX9_sample_43 : decode cX9_sample 43 = .ok (.invokevirtual 111, 3) := by decide +kernel
theorem dX9_sample_46 : decode cX9_sample 46 = .ok (.istore_n 3, 1) := by decide +kernel
theorem dX9_sample_47 : decode cX9_sample 47 = .ok (.iload_n 3, 1) := by decide +kernel
theorem dX9_sample_48 : decode cX9_sample 48 = .ok (.iconst (-1), 1) := by decide +kernel
theorem dX9_sample_49 : decode cX9_sample 49 = .ok (.if_icmp .ne 8, 3) := by decide +kernel
theorem dX9_sample_52 : decode cX9_sample 52 = .ok (.bipush (-4), 2) := by decide +kernel
theorem dX9_sample_54 : decode cX9_sample 54 = .ok (.goto 4, 3) := by decide +kernel
theorem dX9_sample_57 : decode cX9_sample 57 = .ok (.iload_n 3, 1) := by decide +kernel
theorem dX9_sample_58 : decode cX9_sample 58 = .ok (.ireturn, 1) := by decide +kernel
theorem dX9_of_0 : decode cX9_of 0 = .ok (.aload_n 0, 1) := by decide +kernel
theorem dX9_of_1 : decode cX9_of 1 = .ok (.getfield 19, 3) := by decide +kernel
theorem dX9_of_4 : decode cX9_of 4 = .ok (.iload_n 1, 1) := by decide +kernel
theorem dX9_of_5 : decode cX9_of 5 = .ok (.invokevirtual 114, 3) := by decide +kernel
theorem dX9_of_8 : decode cX9_of 8 = .ok (.ifCond .ne 5, 3) := by decide +kernel
theorem dX9_of_11 : decode cX9_of 11 = .ok (.iconst (-1), 1) := by decide +kernel
theorem dX9_of_12 : decode cX9_of 12 = .ok (.ireturn, 1) := by decide +kernel
theorem dX9_of_13 : decode cX9_of 13 = .ok (.iload_n 2, 1) := by decide +kernel
theorem dX9_of_14 : decode cX9_of 14 = .ok (.lookupswitch 46 #[(0, 26), (1, 36)], 26) := by decide +kernel
theorem dX9_of_40 : decode cX9_of 40 = .ok (.aload_n 0, 1) := by decide +kernel
theorem dX9_of_41 : decode cX9_of 41 = .ok (.getfield 19, 3) := by decide +kernel
theorem dX9_of_44 : decode cX9_of 44 = .ok (.getfield 117, 3) := by decide +kernel
theorem dX9_of_47 : decode cX9_of 47 = .ok (.iload_n 1, 1) := by decide +kernel
theorem dX9_of_48 : decode cX9_of 48 = .ok (.iaload, 1) := by decide +kernel
theorem dX9_of_49 : decode cX9_of 49 = .ok (.ireturn, 1) := by decide +kernel
theorem dX9_of_50 : decode cX9_of 50 = .ok (.aload_n 0, 1) := by decide +kernel
theorem dX9_of_51 : decode cX9_of 51 = .ok (.getfield 19, 3) := by decide +kernel
theorem dX9_of_54 : decode cX9_of 54 = .ok (.getfield 120, 3) := by decide +kernel
theorem dX9_of_57 : decode cX9_of 57 = .ok (.iload_n 1, 1) := by decide +kernel
theorem dX9_of_58 : decode cX9_of 58 = .ok (.iaload, 1) := by decide +kernel
theorem dX9_of_59 : decode cX9_of 59 = .ok (.ireturn, 1) := by decide +kernel
theorem dX9_of_60 : decode cX9_of 60 = .ok (.iconst (-1), 1) := by decide +kernel
theorem dX9_of_61 : decode cX9_of 61 = .ok (.ireturn, 1) := by decide +kernel
theorem dX9_samples_0 : decode cX9_samples 0 = .ok (.aload_n 0, 1) := by decide +kernel
theorem dX9_samples_1 : decode cX9_samples 1 = .ok (.getfield 19, 3) := by decide +kernel
theorem dX9_samples_4 : decode cX9_samples 4 = .ok (.getfield 123, 3) := by decide +kernel
theorem dX9_samples_7 : decode cX9_samples 7 = .ok (.ireturn, 1) := by decide +kernel
theorem dX9_function_0 : decode cX9_function 0 = .ok (.iload_n 1, 1) := by decide +kernel
theorem dX9_function_1 : decode cX9_function 1 = .ok (.iconst 1, 1) := by decide +kernel
theorem dX9_function_2 : decode cX9_function 2 = .ok (.if_icmp .lt 8, 3) := by decide +kernel
theorem dX9_function_5 : decode cX9_function 5 = .ok (.iload_n 1, 1) := by decide +kernel
theorem dX9_function_6 : decode cX9_function 6 = .ok (.iconst 2, 1) := by decide +kernel
theorem dX9_function_7 : decode cX9_function 7 = .ok (.if_icmp .le 6, 3) := by decide +kernel
theorem dX9_function_10 : decode cX9_function 10 = .ok (.bipush (-2), 2) := by decide +kernel
theorem dX9_function_12 : decode cX9_function 12 = .ok (.ireturn, 1) := by decide +kernel
theorem dX9_function_13 : decode cX9_function 13 = .ok (.aload_n 0, 1) := by decide +kernel
theorem dX9_function_14 : decode cX9_function 14 = .ok (.getfield 12, 3) := by decide +kernel
theorem dX9_function_17 : decode cX9_function 17 = .ok (.getfield 77, 3) := by decide +kernel
theorem dX9_function_20 : decode cX9_function 20 = .ok (.ifCond .ne 6, 3) := by decide +kernel
theorem dX9_function_23 : decode cX9_function 23 = .ok (.bipush (-3), 2) := by decide +kernel
theorem dX9_function_25 : decode cX9_function 25 = .ok (.ireturn, 1) := by decide +kernel
theorem dX9_function_26 : decode cX9_function 26 = .ok (.aload_n 0, 1) := by decide +kernel
theorem dX9_function_27 : decode cX9_function 27 = .ok (.getfield 63, 3) := by decide +kernel
theorem dX9_function_30 : decode cX9_function 30 = .ok (.iconst 4, 1) := by decide +kernel
theorem dX9_function_31 : decode cX9_function 31 = .ok (.if_icmp .lt 6, 3) := by decide +kernel
theorem dX9_function_34 : decode cX9_function 34 = .ok (.bipush (-4), 2) := by decide +kernel
theorem dX9_function_36 : decode cX9_function 36 = .ok (.ireturn, 1) := by decide +kernel
theorem dX9_function_37 : decode cX9_function 37 = .ok (.aload_n 0, 1) := by decide +kernel
theorem dX9_function_38 : decode cX9_function 38 = .ok (.getfield 25, 3) := by decide +kernel
theorem dX9_function_41 : decode cX9_function 41 = .ok (.aload_n 0, 1) := by decide +kernel
theorem dX9_function_42 : decode cX9_function 42 = .ok (.getfield 63, 3) := by decide +kernel
theorem dX9_function_45 : decode cX9_function 45 = .ok (.new 23, 3) := by decide +kernel
theorem dX9_function_48 : decode cX9_function 48 = .ok (.dup, 1) := by decide +kernel
theorem dX9_function_49 : decode cX9_function 49 = .ok (.aload_n 0, 1) := by decide +kernel
theorem dX9_function_50 : decode cX9_function 50 = .ok (.getfield 12, 3) := by decide +kernel
theorem dX9_function_53 : decode cX9_function 53 = .ok (.aload_n 0, 1) := by decide +kernel
theorem dX9_function_54 : decode cX9_function 54 = .ok (.getfield 63, 3) := by decide +kernel
theorem dX9_function_57 : decode cX9_function 57 = .ok (.iload_n 1, 1) := by decide +kernel
theorem dX9_function_58 : decode cX9_function 58 = .ok (.invokespecial 126, 3) := by decide +kernel
theorem dX9_function_61 : decode cX9_function 61 = .ok (.aastore, 1) := by decide +kernel
theorem dX9_function_62 : decode cX9_function 62 = .ok (.aload_n 0, 1) := by decide +kernel
theorem dX9_function_63 : decode cX9_function 63 = .ok (.dup, 1) := by decide +kernel
theorem dX9_function_64 : decode cX9_function 64 = .ok (.getfield 63, 3) := by decide +kernel
theorem dX9_function_67 : decode cX9_function 67 = .ok (.iconst 1, 1) := by decide +kernel
theorem dX9_function_68 : decode cX9_function 68 = .ok (.iadd, 1) := by decide +kernel
theorem dX9_function_69 : decode cX9_function 69 = .ok (.putfield 63, 3) := by decide +kernel
theorem dX9_function_72 : decode cX9_function 72 = .ok (.aload_n 0, 1) := by decide +kernel
theorem dX9_function_73 : decode cX9_function 73 = .ok (.getfield 63, 3) := by decide +kernel
theorem dX9_function_76 : decode cX9_function 76 = .ok (.iconst 1, 1) := by decide +kernel
theorem dX9_function_77 : decode cX9_function 77 = .ok (.isub, 1) := by decide +kernel
theorem dX9_function_78 : decode cX9_function 78 = .ok (.ireturn, 1) := by decide +kernel
theorem dX9_handler_0 : decode cX9_handler 0 = .ok (.aload_n 0, 1) := by decide +kernel
theorem dX9_handler_1 : decode cX9_handler 1 = .ok (.iload_n 1, 1) := by decide +kernel
theorem dX9_handler_2 : decode cX9_handler 2 = .ok (.invokevirtual 129, 3) := by decide +kernel
theorem dX9_handler_5 : decode cX9_handler 5 = .ok (.astore 5, 2) := by decide +kernel
theorem dX9_handler_7 : decode cX9_handler 7 = .ok (.aload 5, 2) := by decide +kernel
theorem dX9_handler_9 : decode cX9_handler 9 = .ok (.ifnull 13, 3) := by decide +kernel
theorem dX9_handler_12 : decode cX9_handler 12 = .ok (.iload_n 2, 1) := by decide +kernel
theorem dX9_handler_13 : decode cX9_handler 13 = .ok (.ifCond .lt 9, 3) := by decide +kernel
theorem dX9_handler_16 : decode cX9_handler 16 = .ok (.iload_n 2, 1) := by decide +kernel
theorem dX9_handler_17 : decode cX9_handler 17 = .ok (.bipush 7, 2) := by decide +kernel
theorem dX9_handler_19 : decode cX9_handler 19 = .ok (.if_icmp .le 6, 3) := by decide +kernel
theorem dX9_handler_22 : decode cX9_handler 22 = .ok (.bipush (-2), 2) := by decide +kernel
theorem dX9_handler_24 : decode cX9_handler 24 = .ok (.ireturn, 1) := by decide +kernel
theorem dX9_handler_25 : decode cX9_handler 25 = .ok (.aload_n 0, 1) := by decide +kernel
theorem dX9_handler_26 : decode cX9_handler 26 = .ok (.getfield 67, 3) := by decide +kernel
theorem dX9_handler_29 : decode cX9_handler 29 = .ok (.bipush 40, 2) := by decide +kernel
theorem dX9_handler_31 : decode cX9_handler 31 = .ok (.if_icmp .lt 6, 3) := by decide +kernel
theorem dX9_handler_34 : decode cX9_handler 34 = .ok (.bipush (-4), 2) := by decide +kernel
theorem dX9_handler_36 : decode cX9_handler 36 = .ok (.ireturn, 1) := by decide +kernel
theorem dX9_handler_37 : decode cX9_handler 37 = .ok (.aload_n 0, 1) := by decide +kernel
theorem dX9_handler_38 : decode cX9_handler 38 = .ok (.getfield 31, 3) := by decide +kernel
theorem dX9_handler_41 : decode cX9_handler 41 = .ok (.aload_n 0, 1) := by decide +kernel
theorem dX9_handler_42 : decode cX9_handler 42 = .ok (.getfield 67, 3) := by decide +kernel
theorem dX9_handler_45 : decode cX9_handler 45 = .ok (.new 29, 3) := by decide +kernel
theorem dX9_handler_48 : decode cX9_handler 48 = .ok (.dup, 1) := by decide +kernel
theorem dX9_handler_49 : decode cX9_handler 49 = .ok (.aload 5, 2) := by decide +kernel
theorem dX9_handler_51 : decode cX9_handler 51 = .ok (.aload_n 0, 1) := by decide +kernel
theorem dX9_handler_52 : decode cX9_handler 52 = .ok (.getfield 67, 3) := by decide +kernel
theorem dX9_handler_55 : decode cX9_handler 55 = .ok (.iload_n 2, 1) := by decide +kernel
theorem dX9_handler_56 : decode cX9_handler 56 = .ok (.iload_n 3, 1) := by decide +kernel
theorem dX9_handler_57 : decode cX9_handler 57 = .ok (.iload 4, 2) := by decide +kernel
theorem dX9_handler_59 : decode cX9_handler 59 = .ok (.invokespecial 133, 3) := by decide +kernel
theorem dX9_handler_62 : decode cX9_handler 62 = .ok (.aastore, 1) := by decide +kernel
theorem dX9_handler_63 : decode cX9_handler 63 = .ok (.aload_n 0, 1) := by decide +kernel
theorem dX9_handler_64 : decode cX9_handler 64 = .ok (.dup, 1) := by decide +kernel
theorem dX9_handler_65 : decode cX9_handler 65 = .ok (.getfield 67, 3) := by decide +kernel
theorem dX9_handler_68 : decode cX9_handler 68 = .ok (.iconst 1, 1) := by decide +kernel
end
section
theorem dX9_handler_69 : decode cX9_handler 69 = .ok (.iadd, 1) := by decide +kernel
theorem dX9_handler_70 : decode cX9_handler 70 = .ok (.putfield 67, 3) := by decide +kernel
theorem dX9_handler_73 : decode cX9_handler 73 = .ok (.aload_n 0, 1) := by decide +kernel
theorem dX9_handler_74 : decode cX9_handler 74 = .ok (.getfield 67, 3) := by decide +kernel
theorem dX9_handler_77 : decode cX9_handler 77 = .ok (.iconst 1, 1) := by decide +kernel
theorem dX9_handler_78 : decode cX9_handler 78 = .ok (.isub, 1) := by decide +kernel
theorem dX9_handler_79 : decode cX9_handler 79 = .ok (.ireturn, 1) := by decide +kernel
theorem dX9_place_0 : decode cX9_place 0 = .ok (.aload_n 0, 1) := by decide +kernel
theorem dX9_place_1 : decode cX9_place 1 = .ok (.iload_n 1, 1) := by decide +kernel
theorem dX9_place_2 : decode cX9_place 2 = .ok (.invokevirtual 136, 3) := by decide +kernel
theorem dX9_place_5 : decode cX9_place 5 = .ok (.astore 4, 2) := by decide +kernel
theorem dX9_place_7 : decode cX9_place 7 = .ok (.aload 4, 2) := by decide +kernel
theorem dX9_place_9 : decode cX9_place 9 = .ok (.ifnull 27, 3) := by decide +kernel
theorem dX9_place_12 : decode cX9_place 12 = .ok (.aload 4, 2) := by decide +kernel
theorem dX9_place_14 : decode cX9_place 14 = .ok (.getfield 140, 3) := by decide +kernel
theorem dX9_place_17 : decode cX9_place 17 = .ok (.iload_n 2, 1) := by decide +kernel
theorem dX9_place_18 : decode cX9_place 18 = .ok (.invokevirtual 144, 3) := by decide +kernel
theorem dX9_place_21 : decode cX9_place 21 = .ok (.ifCond .eq 15, 3) := by decide +kernel
theorem dX9_place_24 : decode cX9_place 24 = .ok (.iload_n 3, 1) := by decide +kernel
theorem dX9_place_25 : decode cX9_place 25 = .ok (.iconst (-1), 1) := by decide +kernel
theorem dX9_place_26 : decode cX9_place 26 = .ok (.if_icmp .eq 13, 3) := by decide +kernel
theorem dX9_place_29 : decode cX9_place 29 = .ok (.iload_n 3, 1) := by decide +kernel
theorem dX9_place_30 : decode cX9_place 30 = .ok (.invokestatic 104, 3) := by decide +kernel
theorem dX9_place_33 : decode cX9_place 33 = .ok (.ifCond .ne 6, 3) := by decide +kernel
theorem dX9_place_36 : decode cX9_place 36 = .ok (.bipush (-2), 2) := by decide +kernel
theorem dX9_place_38 : decode cX9_place 38 = .ok (.ireturn, 1) := by decide +kernel
theorem dX9_place_39 : decode cX9_place 39 = .ok (.aload 4, 2) := by decide +kernel
theorem dX9_place_41 : decode cX9_place 41 = .ok (.getfield 147, 3) := by decide +kernel
theorem dX9_place_44 : decode cX9_place 44 = .ok (.ifCond .eq 6, 3) := by decide +kernel
theorem dX9_place_47 : decode cX9_place 47 = .ok (.bipush (-3), 2) := by decide +kernel
theorem dX9_place_49 : decode cX9_place 49 = .ok (.ireturn, 1) := by decide +kernel
theorem dX9_place_50 : decode cX9_place 50 = .ok (.aload 4, 2) := by decide +kernel
theorem dX9_place_52 : decode cX9_place 52 = .ok (.getfield 150, 3) := by decide +kernel
theorem dX9_place_55 : decode cX9_place 55 = .ok (.iload_n 2, 1) := by decide +kernel
theorem dX9_place_56 : decode cX9_place 56 = .ok (.iload_n 3, 1) := by decide +kernel
theorem dX9_place_57 : decode cX9_place 57 = .ok (.iastore, 1) := by decide +kernel
theorem dX9_place_58 : decode cX9_place 58 = .ok (.iconst 1, 1) := by decide +kernel
theorem dX9_place_59 : decode cX9_place 59 = .ok (.ireturn, 1) := by decide +kernel
theorem dX9_test_0 : decode cX9_test 0 = .ok (.aload_n 0, 1) := by decide +kernel
theorem dX9_test_1 : decode cX9_test 1 = .ok (.iload_n 1, 1) := by decide +kernel
theorem dX9_test_2 : decode cX9_test 2 = .ok (.invokevirtual 136, 3) := by decide +kernel
theorem dX9_test_5 : decode cX9_test 5 = .ok (.astore 5, 2) := by decide +kernel
theorem dX9_test_7 : decode cX9_test 7 = .ok (.aload 5, 2) := by decide +kernel
theorem dX9_test_9 : decode cX9_test 9 = .ok (.ifnull 21, 3) := by decide +kernel
theorem dX9_test_12 : decode cX9_test 12 = .ok (.aload 5, 2) := by decide +kernel
theorem dX9_test_14 : decode cX9_test 14 = .ok (.getfield 140, 3) := by decide +kernel
theorem dX9_test_17 : decode cX9_test 17 = .ok (.iload_n 2, 1) := by decide +kernel
theorem dX9_test_18 : decode cX9_test 18 = .ok (.invokevirtual 144, 3) := by decide +kernel
theorem dX9_test_21 : decode cX9_test 21 = .ok (.ifCond .eq 9, 3) := by decide +kernel
theorem dX9_test_24 : decode cX9_test 24 = .ok (.iload_n 3, 1) := by decide +kernel
theorem dX9_test_25 : decode cX9_test 25 = .ok (.iload 4, 2) := by decide +kernel
theorem dX9_test_27 : decode cX9_test 27 = .ok (.if_icmp .le 6, 3) := by decide +kernel
theorem dX9_test_30 : decode cX9_test 30 = .ok (.bipush (-2), 2) := by decide +kernel
theorem dX9_test_32 : decode cX9_test 32 = .ok (.ireturn, 1) := by decide +kernel
theorem dX9_test_33 : decode cX9_test 33 = .ok (.aload 5, 2) := by decide +kernel
theorem dX9_test_35 : decode cX9_test 35 = .ok (.getfield 147, 3) := by decide +kernel
theorem dX9_test_38 : decode cX9_test 38 = .ok (.ifCond .eq 6, 3) := by decide +kernel
theorem dX9_test_41 : decode cX9_test 41 = .ok (.bipush (-3), 2) := by decide +kernel
theorem dX9_test_43 : decode cX9_test 43 = .ok (.ireturn, 1) := by decide +kernel
theorem dX9_test_44 : decode cX9_test 44 = .ok (.aload 5, 2) := by decide +kernel
theorem dX9_test_46 : decode cX9_test 46 = .ok (.getfield 153, 3) := by decide +kernel
theorem dX9_test_49 : decode cX9_test 49 = .ok (.iload_n 2, 1) := by decide +kernel
theorem dX9_test_50 : decode cX9_test 50 = .ok (.iload_n 3, 1) := by decide +kernel
theorem dX9_test_51 : decode cX9_test 51 = .ok (.iastore, 1) := by decide +kernel
theorem dX9_test_52 : decode cX9_test 52 = .ok (.aload 5, 2) := by decide +kernel
theorem dX9_test_54 : decode cX9_test 54 = .ok (.getfield 156, 3) := by decide +kernel
theorem dX9_test_57 : decode cX9_test 57 = .ok (.iload_n 2, 1) := by decide +kernel
theorem dX9_test_58 : decode cX9_test 58 = .ok (.iload 4, 2) := by decide +kernel
theorem dX9_test_60 : decode cX9_test 60 = .ok (.iastore, 1) := by decide +kernel
theorem dX9_test_61 : decode cX9_test 61 = .ok (.iconst 1, 1) := by decide +kernel
theorem dX9_test_62 : decode cX9_test 62 = .ok (.ireturn, 1) := by decide +kernel
theorem dX9_lay_0 : decode cX9_lay 0 = .ok (.aload_n 0, 1) := by decide +kernel
theorem dX9_lay_1 : decode cX9_lay 1 = .ok (.iload_n 1, 1) := by decide +kernel
theorem dX9_lay_2 : decode cX9_lay 2 = .ok (.invokevirtual 136, 3) := by decide +kernel
theorem dX9_lay_5 : decode cX9_lay 5 = .ok (.astore_n 2, 1) := by decide +kernel
theorem dX9_lay_6 : decode cX9_lay 6 = .ok (.aload_n 2, 1) := by decide +kernel
theorem dX9_lay_7 : decode cX9_lay 7 = .ok (.ifnonnull 6, 3) := by decide +kernel
theorem dX9_lay_10 : decode cX9_lay 10 = .ok (.bipush (-2), 2) := by decide +kernel
theorem dX9_lay_12 : decode cX9_lay 12 = .ok (.ireturn, 1) := by decide +kernel
theorem dX9_lay_13 : decode cX9_lay 13 = .ok (.aload_n 2, 1) := by decide +kernel
theorem dX9_lay_14 : decode cX9_lay 14 = .ok (.getfield 140, 3) := by decide +kernel
theorem dX9_lay_17 : decode cX9_lay 17 = .ok (.astore_n 3, 1) := by decide +kernel
theorem dX9_lay_18 : decode cX9_lay 18 = .ok (.aload_n 2, 1) := by decide +kernel
theorem dX9_lay_19 : decode cX9_lay 19 = .ok (.getfield 147, 3) := by decide +kernel
theorem dX9_lay_22 : decode cX9_lay 22 = .ok (.ifCond .ne 10, 3) := by decide +kernel
theorem dX9_lay_25 : decode cX9_lay 25 = .ok (.aload_n 3, 1) := by decide +kernel
theorem dX9_lay_26 : decode cX9_lay 26 = .ok (.getfield 159, 3) := by decide +kernel
theorem dX9_lay_29 : decode cX9_lay 29 = .ok (.ifCond .eq 6, 3) := by decide +kernel
theorem dX9_lay_32 : decode cX9_lay 32 = .ok (.bipush (-3), 2) := by decide +kernel
theorem dX9_lay_34 : decode cX9_lay 34 = .ok (.ireturn, 1) := by decide +kernel
theorem dX9_lay_35 : decode cX9_lay 35 = .ok (.aload_n 3, 1) := by decide +kernel
theorem dX9_lay_36 : decode cX9_lay 36 = .ok (.aload_n 2, 1) := by decide +kernel
theorem dX9_lay_37 : decode cX9_lay 37 = .ok (.invokevirtual 162, 3) := by decide +kernel
theorem dX9_lay_40 : decode cX9_lay 40 = .ok (.ifCond .eq 6, 3) := by decide +kernel
theorem dX9_lay_43 : decode cX9_lay 43 = .ok (.bipush (-5), 2) := by decide +kernel
theorem dX9_lay_45 : decode cX9_lay 45 = .ok (.ireturn, 1) := by decide +kernel
theorem dX9_lay_46 : decode cX9_lay 46 = .ok (.aload_n 3, 1) := by decide +kernel
theorem dX9_lay_47 : decode cX9_lay 47 = .ok (.aload_n 2, 1) := by decide +kernel
theorem dX9_lay_48 : decode cX9_lay 48 = .ok (.invokevirtual 166, 3) := by decide +kernel
theorem dX9_lay_51 : decode cX9_lay 51 = .ok (.ifCond .ne 6, 3) := by decide +kernel
theorem dX9_lay_54 : decode cX9_lay 54 = .ok (.bipush (-4), 2) := by decide +kernel
theorem dX9_lay_56 : decode cX9_lay 56 = .ok (.ireturn, 1) := by decide +kernel
theorem dX9_lay_57 : decode cX9_lay 57 = .ok (.aload_n 2, 1) := by decide +kernel
theorem dX9_lay_58 : decode cX9_lay 58 = .ok (.iconst 1, 1) := by decide +kernel
theorem dX9_lay_59 : decode cX9_lay 59 = .ok (.putfield 147, 3) := by decide +kernel
theorem dX9_lay_62 : decode cX9_lay 62 = .ok (.iconst 1, 1) := by decide +kernel
theorem dX9_lay_63 : decode cX9_lay 63 = .ok (.ireturn, 1) := by decide +kernel
theorem dX9_lift_0 : decode cX9_lift 0 = .ok (.aload_n 0, 1) := by decide +kernel
theorem dX9_lift_1 : decode cX9_lift 1 = .ok (.iload_n 1, 1) := by decide +kernel
theorem dX9_lift_2 : decode cX9_lift 2 = .ok (.invokevirtual 136, 3) := by decide +kernel
theorem dX9_lift_5 : decode cX9_lift 5 = .ok (.astore_n 2, 1) := by decide +kernel
theorem dX9_lift_6 : decode cX9_lift 6 = .ok (.aload_n 2, 1) := by decide +kernel
theorem dX9_lift_7 : decode cX9_lift 7 = .ok (.ifnonnull 6, 3) := by decide +kernel
theorem dX9_lift_10 : decode cX9_lift 10 = .ok (.bipush (-2), 2) := by decide +kernel
theorem dX9_lift_12 : decode cX9_lift 12 = .ok (.ireturn, 1) := by decide +kernel
theorem dX9_lift_13 : decode cX9_lift 13 = .ok (.aload_n 2, 1) := by decide +kernel
theorem dX9_lift_14 : decode cX9_lift 14 = .ok (.getfield 147, 3) := by decide +kernel
theorem dX9_lift_17 : decode cX9_lift 17 = .ok (.iconst 1, 1) := by decide +kernel
theorem dX9_lift_18 : decode cX9_lift 18 = .ok (.if_icmp .ne 13, 3) := by decide +kernel
theorem dX9_lift_21 : decode cX9_lift 21 = .ok (.aload_n 2, 1) := by decide +kernel
theorem dX9_lift_22 : decode cX9_lift 22 = .ok (.getfield 140, 3) := by decide +kernel
theorem dX9_lift_25 : decode cX9_lift 25 = .ok (.getfield 159, 3) := by decide +kernel
theorem dX9_lift_28 : decode cX9_lift 28 = .ok (.ifCond .eq 6, 3) := by decide +kernel
theorem dX9_lift_31 : decode cX9_lift 31 = .ok (.bipush (-3), 2) := by decide +kernel
theorem dX9_lift_33 : decode cX9_lift 33 = .ok (.ireturn, 1) := by decide +kernel
theorem dX9_lift_34 : decode cX9_lift 34 = .ok (.aload_n 2, 1) := by decide +kernel
theorem dX9_lift_35 : decode cX9_lift 35 = .ok (.iconst 2, 1) := by decide +kernel
theorem dX9_lift_36 : decode cX9_lift 36 = .ok (.putfield 147, 3) := by decide +kernel
theorem dX9_lift_39 : decode cX9_lift 39 = .ok (.aload_n 2, 1) := by decide +kernel
theorem dX9_lift_40 : decode cX9_lift 40 = .ok (.getfield 140, 3) := by decide +kernel
theorem dX9_lift_43 : decode cX9_lift 43 = .ok (.aload_n 2, 1) := by decide +kernel
theorem dX9_lift_44 : decode cX9_lift 44 = .ok (.invokevirtual 169, 3) := by decide +kernel
theorem dX9_lift_47 : decode cX9_lift 47 = .ok (.iconst 1, 1) := by decide +kernel
theorem dX9_lift_48 : decode cX9_lift 48 = .ok (.ireturn, 1) := by decide +kernel
theorem dX9_freeze_0 : decode cX9_freeze 0 = .ok (.aload_n 0, 1) := by decide +kernel
theorem dX9_freeze_1 : decode cX9_freeze 1 = .ok (.iload_n 1, 1) := by decide +kernel
theorem dX9_freeze_2 : decode cX9_freeze 2 = .ok (.invokevirtual 129, 3) := by decide +kernel
theorem dX9_freeze_5 : decode cX9_freeze 5 = .ok (.astore_n 3, 1) := by decide +kernel
theorem dX9_freeze_6 : decode cX9_freeze 6 = .ok (.aload_n 3, 1) := by decide +kernel
theorem dX9_freeze_7 : decode cX9_freeze 7 = .ok (.ifnonnull 6, 3) := by decide +kernel
theorem dX9_freeze_10 : decode cX9_freeze 10 = .ok (.bipush (-2), 2) := by decide +kernel
theorem dX9_freeze_12 : decode cX9_freeze 12 = .ok (.ireturn, 1) := by decide +kernel
theorem dX9_freeze_13 : decode cX9_freeze 13 = .ok (.aload_n 3, 1) := by decide +kernel
theorem dX9_freeze_14 : decode cX9_freeze 14 = .ok (.getfield 159, 3) := by decide +kernel
theorem dX9_freeze_17 : decode cX9_freeze 17 = .ok (.iload_n 2, 1) := by decide +kernel
theorem dX9_freeze_18 : decode cX9_freeze 18 = .ok (.if_icmp .ne 5, 3) := by decide +kernel
theorem dX9_freeze_21 : decode cX9_freeze 21 = .ok (.iconst 0, 1) := by decide +kernel
theorem dX9_freeze_22 : decode cX9_freeze 22 = .ok (.ireturn, 1) := by decide +kernel
theorem dX9_freeze_23 : decode cX9_freeze 23 = .ok (.aload_n 3, 1) := by decide +kernel
theorem dX9_freeze_24 : decode cX9_freeze 24 = .ok (.iload_n 2, 1) := by decide +kernel
theorem dX9_freeze_25 : decode cX9_freeze 25 = .ok (.putfield 159, 3) := by decide +kernel
theorem dX9_freeze_28 : decode cX9_freeze 28 = .ok (.iconst 1, 1) := by decide +kernel
theorem dX9_freeze_29 : decode cX9_freeze 29 = .ok (.ireturn, 1) := by decide +kernel
theorem dX9_about_0 : decode cX9_about 0 = .ok (.aload_n 0, 1) := by decide +kernel
theorem dX9_about_1 : decode cX9_about 1 = .ok (.iload_n 1, 1) := by decide +kernel
theorem dX9_about_2 : decode cX9_about 2 = .ok (.invokevirtual 136, 3) := by decide +kernel
theorem dX9_about_5 : decode cX9_about 5 = .ok (.astore_n 3, 1) := by decide +kernel
theorem dX9_about_6 : decode cX9_about 6 = .ok (.aload_n 3, 1) := by decide +kernel
theorem dX9_about_7 : decode cX9_about 7 = .ok (.ifnonnull 6, 3) := by decide +kernel
theorem dX9_about_10 : decode cX9_about 10 = .ok (.bipush (-2), 2) := by decide +kernel
theorem dX9_about_12 : decode cX9_about 12 = .ok (.ireturn, 1) := by decide +kernel
theorem dX9_about_13 : decode cX9_about 13 = .ok (.iload_n 2, 1) := by decide +kernel
theorem dX9_about_14 : decode cX9_about 14 = .ok (.tableswitch 129 0 10 #[58, 66, 71, 76, 89, 94, 94, 105, 105, 117, 117], 58) := by decide +kernel
theorem dX9_about_72 : decode cX9_about 72 = .ok (.aload_n 3, 1) := by decide +kernel
theorem dX9_about_73 : decode cX9_about 73 = .ok (.getfield 140, 3) := by decide +kernel
theorem dX9_about_76 : decode cX9_about 76 = .ok (.getfield 173, 3) := by decide +kernel
theorem dX9_about_79 : decode cX9_about 79 = .ok (.ireturn, 1) := by decide +kernel
theorem dX9_about_80 : decode cX9_about 80 = .ok (.aload_n 3, 1) := by decide +kernel
theorem dX9_about_81 : decode cX9_about 81 = .ok (.getfield 176, 3) := by decide +kernel
theorem dX9_about_84 : decode cX9_about 84 = .ok (.ireturn, 1) := by decide +kernel
theorem dX9_about_85 : decode cX9_about 85 = .ok (.aload_n 3, 1) := by decide +kernel
theorem dX9_about_86 : decode cX9_about 86 = .ok (.getfield 179, 3) := by decide +kernel
theorem dX9_about_89 : decode cX9_about 89 = .ok (.ireturn, 1) := by decide +kernel
theorem dX9_about_90 : decode cX9_about 90 = .ok (.aload_n 3, 1) := by decide +kernel
theorem dX9_about_91 : decode cX9_about 91 = .ok (.getfield 182, 3) := by decide +kernel
theorem dX9_about_94 : decode cX9_about 94 = .ok (.ifCond .eq 7, 3) := by decide +kernel
theorem dX9_about_97 : decode cX9_about 97 = .ok (.iconst 1, 1) := by decide +kernel
theorem dX9_about_98 : decode cX9_about 98 = .ok (.goto 4, 3) := by decide +kernel
theorem dX9_about_101 : decode cX9_about 101 = .ok (.iconst 0, 1) := by decide +kernel
theorem dX9_about_102 : decode cX9_about 102 = .ok (.ireturn, 1) := by decide +kernel
theorem dX9_about_103 : decode cX9_about 103 = .ok (.aload_n 3, 1) := by decide +kernel
theorem dX9_about_104 : decode cX9_about 104 = .ok (.getfield 147, 3) := by decide +kernel
theorem dX9_about_107 : decode cX9_about 107 = .ok (.ireturn, 1) := by decide +kernel
theorem dX9_about_108 : decode cX9_about 108 = .ok (.aload_n 3, 1) := by decide +kernel
theorem dX9_about_109 : decode cX9_about 109 = .ok (.getfield 150, 3) := by decide +kernel
theorem dX9_about_112 : decode cX9_about 112 = .ok (.iload_n 2, 1) := by decide +kernel
theorem dX9_about_113 : decode cX9_about 113 = .ok (.iconst 5, 1) := by decide +kernel
theorem dX9_about_114 : decode cX9_about 114 = .ok (.isub, 1) := by decide +kernel
theorem dX9_about_115 : decode cX9_about 115 = .ok (.invokestatic 185, 3) := by decide +kernel
theorem dX9_about_118 : decode cX9_about 118 = .ok (.ireturn, 1) := by decide +kernel
theorem dX9_about_119 : decode cX9_about 119 = .ok (.aload_n 3, 1) := by decide +kernel
theorem dX9_about_120 : decode cX9_about 120 = .ok (.getfield 153, 3) := by decide +kernel
theorem dX9_about_123 : decode cX9_about 123 = .ok (.iload_n 2, 1) := by decide +kernel
theorem dX9_about_124 : decode cX9_about 124 = .ok (.bipush 7, 2) := by decide +kernel
theorem dX9_about_126 : decode cX9_about 126 = .ok (.isub, 1) := by decide +kernel
theorem dX9_about_127 : decode cX9_about 127 = .ok (.invokestatic 185, 3) := by decide +kernel
theorem dX9_about_130 : decode cX9_about 130 = .ok (.ireturn, 1) := by decide +kernel
theorem dX9_about_131 : decode cX9_about 131 = .ok (.aload_n 3, 1) := by decide +kernel
theorem dX9_about_132 : decode cX9_about 132 = .ok (.getfield 156, 3) := by decide +kernel
theorem dX9_about_135 : decode cX9_about 135 = .ok (.iload_n 2, 1) := by decide +kernel
theorem dX9_about_136 : decode cX9_about 136 = .ok (.bipush 9, 2) := by decide +kernel
theorem dX9_about_138 : decode cX9_about 138 = .ok (.isub, 1) := by decide +kernel
theorem dX9_about_139 : decode cX9_about 139 = .ok (.invokestatic 185, 3) := by decide +kernel
theorem dX9_about_142 : decode cX9_about 142 = .ok (.ireturn, 1) := by decide +kernel
theorem dX9_about_143 : decode cX9_about 143 = .ok (.bipush (-2), 2) := by decide +kernel
theorem dX9_about_145 : decode cX9_about 145 = .ok (.ireturn, 1) := by decide +kernel
theorem dX9_dominates_0 : decode cX9_dominates 0 = .ok (.aload_n 0, 1) := by decide +kernel
theorem dX9_dominates_1 : decode cX9_dominates 1 = .ok (.iload_n 1, 1) := by decide +kernel
theorem dX9_dominates_2 : decode cX9_dominates 2 = .ok (.invokevirtual 136, 3) := by decide +kernel
theorem dX9_dominates_5 : decode cX9_dominates 5 = .ok (.astore_n 3, 1) := by decide +kernel
theorem dX9_dominates_6 : decode cX9_dominates 6 = .ok (.aload_n 0, 1) := by decide +kernel
theorem dX9_dominates_7 : decode cX9_dominates 7 = .ok (.iload_n 2, 1) := by decide +kernel
theorem dX9_dominates_8 : decode cX9_dominates 8 = .ok (.invokevirtual 136, 3) := by decide +kernel
theorem dX9_dominates_11 : decode cX9_dominates 11 = .ok (.astore 4, 2) := by decide +kernel
theorem dX9_dominates_13 : decode cX9_dominates 13 = .ok (.aload_n 3, 1) := by decide +kernel
theorem dX9_dominates_14 : decode cX9_dominates 14 = .ok (.ifnull 39, 3) := by decide +kernel
theorem dX9_dominates_17 : decode cX9_dominates 17 = .ok (.aload 4, 2) := by decide +kernel
theorem dX9_dominates_19 : decode cX9_dominates 19 = .ok (.ifnull 34, 3) := by decide +kernel
theorem dX9_dominates_22 : decode cX9_dominates 22 = .ok (.aload_n 3, 1) := by decide +kernel
theorem dX9_dominates_23 : decode cX9_dominates 23 = .ok (.getfield 140, 3) := by decide +kernel
theorem dX9_dominates_26 : decode cX9_dominates 26 = .ok (.getfield 173, 3) := by decide +kernel
theorem dX9_dominates_29 : decode cX9_dominates 29 = .ok (.aload 4, 2) := by decide +kernel
theorem dX9_dominates_31 : decode cX9_dominates 31 = .ok (.getfield 140, 3) := by decide +kernel
theorem dX9_dominates_34 : decode cX9_dominates 34 = .ok (.getfield 173, 3) := by decide +kernel
theorem dX9_dominates_37 : decode cX9_dominates 37 = .ok (.if_icmp .ne 16, 3) := by decide +kernel
theorem dX9_dominates_40 : decode cX9_dominates 40 = .ok (.aload_n 3, 1) := by decide +kernel
theorem dX9_dominates_41 : decode cX9_dominates 41 = .ok (.aload 4, 2) := by decide +kernel
theorem dX9_dominates_43 : decode cX9_dominates 43 = .ok (.invokevirtual 189, 3) := by decide +kernel
theorem dX9_dominates_46 : decode cX9_dominates 46 = .ok (.ifCond .eq 7, 3) := by decide +kernel
theorem dX9_dominates_49 : decode cX9_dominates 49 = .ok (.iconst 1, 1) := by decide +kernel
theorem dX9_dominates_50 : decode cX9_dominates 50 = .ok (.goto 4, 3) := by decide +kernel
theorem dX9_dominates_53 : decode cX9_dominates 53 = .ok (.iconst 0, 1) := by decide +kernel
theorem dX9_dominates_54 : decode cX9_dominates 54 = .ok (.ireturn, 1) := by decide +kernel
theorem dX9_order_0 : decode cX9_order 0 = .ok (.aload_n 0, 1) := by decide +kernel
theorem dX9_order_1 : decode cX9_order 1 = .ok (.iload_n 1, 1) := by decide +kernel
theorem dX9_order_2 : decode cX9_order 2 = .ok (.invokevirtual 129, 3) := by decide +kernel
theorem dX9_order_5 : decode cX9_order 5 = .ok (.astore_n 3, 1) := by decide +kernel
theorem dX9_order_6 : decode cX9_order 6 = .ok (.aload_n 3, 1) := by decide +kernel
theorem dX9_order_7 : decode cX9_order 7 = .ok (.ifnull 15, 3) := by decide +kernel
theorem dX9_order_10 : decode cX9_order 10 = .ok (.iload_n 2, 1) := by decide +kernel
theorem dX9_order_11 : decode cX9_order 11 = .ok (.ifCond .lt 11, 3) := by decide +kernel
theorem dX9_order_14 : decode cX9_order 14 = .ok (.iload_n 2, 1) := by decide +kernel
theorem dX9_order_15 : decode cX9_order 15 = .ok (.aload_n 3, 1) := by decide +kernel
theorem dX9_order_16 : decode cX9_order 16 = .ok (.getfield 192, 3) := by decide +kernel
theorem dX9_order_19 : decode cX9_order 19 = .ok (.if_icmp .lt 5, 3) := by decide +kernel
theorem dX9_order_22 : decode cX9_order 22 = .ok (.iconst (-1), 1) := by decide +kernel
theorem dX9_order_23 : decode cX9_order 23 = .ok (.ireturn, 1) := by decide +kernel
theorem dX9_order_24 : decode cX9_order 24 = .ok (.aload_n 3, 1) := by decide +kernel
theorem dX9_order_25 : decode cX9_order 25 = .ok (.aload_n 3, 1) := by decide +kernel
theorem dX9_order_26 : decode cX9_order 26 = .ok (.getfield 195, 3) := by decide +kernel
theorem dX9_order_29 : decode cX9_order 29 = .ok (.iload_n 2, 1) := by decide +kernel
theorem dX9_order_30 : decode cX9_order 30 = .ok (.iaload, 1) := by decide +kernel
theorem dX9_order_31 : decode cX9_order 31 = .ok (.invokevirtual 198, 3) := by decide +kernel
theorem dX9_order_34 : decode cX9_order 34 = .ok (.ireturn, 1) := by decide +kernel
theorem dX9_arg_0 : decode cX9_arg 0 = .ok (.iload_n 1, 1) := by decide +kernel
theorem dX9_arg_1 : decode cX9_arg 1 = .ok (.ifCond .lt 19, 3) := by decide +kernel
theorem dX9_arg_4 : decode cX9_arg 4 = .ok (.iload_n 1, 1) := by decide +kernel
theorem dX9_arg_5 : decode cX9_arg 5 = .ok (.iconst 2, 1) := by decide +kernel
theorem dX9_arg_6 : decode cX9_arg 6 = .ok (.if_icmp .ge 14, 3) := by decide +kernel
theorem dX9_arg_9 : decode cX9_arg 9 = .ok (.aload_n 0, 1) := by decide +kernel
theorem dX9_arg_10 : decode cX9_arg 10 = .ok (.getfield 19, 3) := by decide +kernel
theorem dX9_arg_13 : decode cX9_arg 13 = .ok (.iload_n 2, 1) := by decide +kernel
theorem dX9_arg_14 : decode cX9_arg 14 = .ok (.invokevirtual 114, 3) := by decide +kernel
theorem dX9_arg_17 : decode cX9_arg 17 = .ok (.ifCond .ne 6, 3) := by decide +kernel
theorem dX9_arg_20 : decode cX9_arg 20 = .ok (.bipush (-2), 2) := by decide +kernel
theorem dX9_arg_22 : decode cX9_arg 22 = .ok (.ireturn, 1) := by decide +kernel
theorem dX9_arg_23 : decode cX9_arg 23 = .ok (.aload_n 0, 1) := by decide +kernel
theorem dX9_arg_24 : decode cX9_arg 24 = .ok (.getfield 35, 3) := by decide +kernel
theorem dX9_arg_27 : decode cX9_arg 27 = .ok (.iload_n 1, 1) := by decide +kernel
theorem dX9_arg_28 : decode cX9_arg 28 = .ok (.iload_n 2, 1) := by decide +kernel
theorem dX9_arg_29 : decode cX9_arg 29 = .ok (.iastore, 1) := by decide +kernel
theorem dX9_arg_30 : decode cX9_arg 30 = .ok (.iconst 1, 1) := by decide +kernel
theorem dX9_arg_31 : decode cX9_arg 31 = .ok (.ireturn, 1) := by decide +kernel
theorem dX9_call_0 : decode cX9_call 0 = .ok (.aload_n 0, 1) := by decide +kernel
theorem dX9_call_1 : decode cX9_call 1 = .ok (.iload_n 1, 1) := by decide +kernel
theorem dX9_call_2 : decode cX9_call 2 = .ok (.invokevirtual 129, 3) := by decide +kernel
theorem dX9_call_5 : decode cX9_call 5 = .ok (.astore_n 2, 1) := by decide +kernel
theorem dX9_call_6 : decode cX9_call 6 = .ok (.aload_n 2, 1) := by decide +kernel
theorem dX9_call_7 : decode cX9_call 7 = .ok (.ifnonnull 6, 3) := by decide +kernel
theorem dX9_call_10 : decode cX9_call 10 = .ok (.bipush (-2), 2) := by decide +kernel
theorem dX9_call_12 : decode cX9_call 12 = .ok (.ireturn, 1) := by decide +kernel
theorem dX9_call_13 : decode cX9_call 13 = .ok (.aload_n 0, 1) := by decide +kernel
theorem dX9_call_14 : decode cX9_call 14 = .ok (.aload_n 2, 1) := by decide +kernel
theorem dX9_call_15 : decode cX9_call 15 = .ok (.invokevirtual 202, 3) := by decide +kernel
theorem dX9_call_18 : decode cX9_call 18 = .ok (.ifCond .ne 6, 3) := by decide +kernel
theorem dX9_call_21 : decode cX9_call 21 = .ok (.bipush (-3), 2) := by decide +kernel
theorem dX9_call_23 : decode cX9_call 23 = .ok (.ireturn, 1) := by decide +kernel
theorem dX9_call_24 : decode cX9_call 24 = .ok (.aload_n 0, 1) := by decide +kernel
theorem dX9_call_25 : decode cX9_call 25 = .ok (.getfield 52, 3) := by decide +kernel
theorem dX9_call_28 : decode cX9_call 28 = .ok (.invokevirtual 206, 3) := by decide +kernel
theorem dX9_call_31 : decode cX9_call 31 = .ok (.aload_n 2, 1) := by decide +kernel
theorem dX9_call_32 : decode cX9_call 32 = .ok (.astore_n 3, 1) := by decide +kernel
theorem dX9_call_33 : decode cX9_call 33 = .ok (.iconst 1, 1) := by decide +kernel
theorem dX9_call_34 : decode cX9_call 34 = .ok (.istore 4, 2) := by decide +kernel
theorem dX9_call_36 : decode cX9_call 36 = .ok (.aload_n 3, 1) := by decide +kernel
theorem dX9_call_37 : decode cX9_call 37 = .ok (.ifnull 31, 3) := by decide +kernel
theorem dX9_call_40 : decode cX9_call 40 = .ok (.iload 4, 2) := by decide +kernel
theorem dX9_call_42 : decode cX9_call 42 = .ok (.bipush 12, 2) := by decide +kernel
theorem dX9_call_44 : decode cX9_call 44 = .ok (.if_icmp .gt 24, 3) := by decide +kernel
theorem dX9_call_47 : decode cX9_call 47 = .ok (.aload_n 0, 1) := by decide +kernel
theorem dX9_call_48 : decode cX9_call 48 = .ok (.getfield 52, 3) := by decide +kernel
theorem dX9_call_51 : decode cX9_call 51 = .ok (.iload 4, 2) := by decide +kernel
theorem dX9_call_53 : decode cX9_call 53 = .ok (.putfield 209, 3) := by decide +kernel
theorem dX9_call_56 : decode cX9_call 56 = .ok (.aload_n 0, 1) := by decide +kernel
theorem dX9_call_57 : decode cX9_call 57 = .ok (.aload_n 3, 1) := by decide +kernel
theorem dX9_call_58 : decode cX9_call 58 = .ok (.invokevirtual 212, 3) := by decide +kernel
theorem dX9_call_61 : decode cX9_call 61 = .ok (.astore_n 3, 1) := by decide +kernel
theorem dX9_call_62 : decode cX9_call 62 = .ok (.iinc 4 1, 3) := by decide +kernel
theorem dX9_call_65 : decode cX9_call 65 = .ok (.goto (-29), 3) := by decide +kernel
theorem dX9_call_68 : decode cX9_call 68 = .ok (.aload_n 3, 1) := by decide +kernel
theorem dX9_call_69 : decode cX9_call 69 = .ok (.ifnull 11, 3) := by decide +kernel
theorem dX9_call_72 : decode cX9_call 72 = .ok (.aload_n 0, 1) := by decide +kernel
theorem dX9_call_73 : decode cX9_call 73 = .ok (.getfield 52, 3) := by decide +kernel
theorem dX9_call_76 : decode cX9_call 76 = .ok (.iconst 4, 1) := by decide +kernel
theorem dX9_call_77 : decode cX9_call 77 = .ok (.putfield 216, 3) := by decide +kernel
theorem dX9_call_80 : decode cX9_call 80 = .ok (.aload_n 0, 1) := by decide +kernel
theorem dX9_call_81 : decode cX9_call 81 = .ok (.getfield 52, 3) := by decide +kernel
theorem dX9_call_84 : decode cX9_call 84 = .ok (.getfield 216, 3) := by decide +kernel
theorem dX9_call_87 : decode cX9_call 87 = .ok (.ireturn, 1) := by decide +kernel
theorem dX9_value_0 : decode cX9_value 0 = .ok (.aload_n 0, 1) := by decide +kernel
theorem dX9_value_1 : decode cX9_value 1 = .ok (.getfield 52, 3) := by decide +kernel
theorem dX9_value_4 : decode cX9_value 4 = .ok (.getfield 216, 3) := by decide +kernel
theorem dX9_value_7 : decode cX9_value 7 = .ok (.ifCond .ne 13, 3) := by decide +kernel
theorem dX9_value_10 : decode cX9_value 10 = .ok (.aload_n 0, 1) := by decide +kernel
theorem dX9_value_11 : decode cX9_value 11 = .ok (.getfield 52, 3) := by decide +kernel
theorem dX9_value_14 : decode cX9_value 14 = .ok (.getfield 219, 3) := by decide +kernel
theorem dX9_value_17 : decode cX9_value 17 = .ok (.goto 4, 3) := by decide +kernel
theorem dX9_value_20 : decode cX9_value 20 = .ok (.lconst 0, 1) := by decide +kernel
theorem dX9_value_21 : decode cX9_value 21 = .ok (.lreturn, 1) := by decide +kernel
theorem dX9_failure_0 : decode cX9_failure 0 = .ok (.aload_n 0, 1) := by decide +kernel
theorem dX9_failure_1 : decode cX9_failure 1 = .ok (.getfield 52, 3) := by decide +kernel
theorem dX9_failure_4 : decode cX9_failure 4 = .ok (.getfield 216, 3) := by decide +kernel
theorem dX9_failure_7 : decode cX9_failure 7 = .ok (.iconst 3, 1) := by decide +kernel
theorem dX9_failure_8 : decode cX9_failure 8 = .ok (.if_icmp .ne 13, 3) := by decide +kernel
theorem dX9_failure_11 : decode cX9_failure 11 = .ok (.aload_n 0, 1) := by decide +kernel
theorem dX9_failure_12 : decode cX9_failure 12 = .ok (.getfield 52, 3) := by decide +kernel
theorem dX9_failure_15 : decode cX9_failure 15 = .ok (.getfield 223, 3) := by decide +kernel
theorem dX9_failure_18 : decode cX9_failure 18 = .ok (.goto 4, 3) := by decide +kernel
theorem dX9_failure_21 : decode cX9_failure 21 = .ok (.iconst 0, 1) := by decide +kernel
theorem dX9_failure_22 : decode cX9_failure 22 = .ok (.ireturn, 1) := by decide +kernel
theorem dX9_step_0 : decode cX9_step 0 = .ok (.iload_n 1, 1) := by decide +kernel
theorem dX9_step_1 : decode cX9_step 1 = .ok (.ifCond .lt 21, 3) := by decide +kernel
theorem dX9_step_4 : decode cX9_step 4 = .ok (.iload_n 1, 1) := by decide +kernel
theorem dX9_step_5 : decode cX9_step 5 = .ok (.aload_n 0, 1) := by decide +kernel
theorem dX9_step_6 : decode cX9_step 6 = .ok (.getfield 52, 3) := by decide +kernel
theorem dX9_step_9 : decode cX9_step 9 = .ok (.getfield 226, 3) := by decide +kernel
theorem dX9_step_12 : decode cX9_step 12 = .ok (.if_icmp .ge 10, 3) := by decide +kernel
theorem dX9_step_15 : decode cX9_step 15 = .ok (.iload_n 1, 1) := by decide +kernel
theorem dX9_step_16 : decode cX9_step 16 = .ok (.sipush 1000, 3) := by decide +kernel
theorem dX9_step_19 : decode cX9_step 19 = .ok (.if_icmp .lt 5, 3) := by decide +kernel
theorem dX9_step_22 : decode cX9_step 22 = .ok (.iconst (-1), 1) := by decide +kernel
theorem dX9_step_23 : decode cX9_step 23 = .ok (.ireturn, 1) := by decide +kernel
theorem dX9_step_24 : decode cX9_step 24 = .ok (.aload_n 0, 1) := by decide +kernel
theorem dX9_step_25 : decode cX9_step 25 = .ok (.getfield 52, 3) := by decide +kernel
theorem dX9_step_28 : decode cX9_step 28 = .ok (.getfield 229, 3) := by decide +kernel
theorem dX9_step_31 : decode cX9_step 31 = .ok (.iload_n 1, 1) := by decide +kernel
theorem dX9_step_32 : decode cX9_step 32 = .ok (.iaload, 1) := by decide +kernel
theorem dX9_step_33 : decode cX9_step 33 = .ok (.ireturn, 1) := by decide +kernel
theorem dX9_counter_0 : decode cX9_counter 0 = .ok (.iload_n 1, 1) := by decide +kernel
theorem dX9_counter_1 : decode cX9_counter 1 = .ok (.ifCond .lt 9, 3) := by decide +kernel
theorem dX9_counter_4 : decode cX9_counter 4 = .ok (.iload_n 1, 1) := by decide +kernel
theorem dX9_counter_5 : decode cX9_counter 5 = .ok (.bipush 8, 2) := by decide +kernel
theorem dX9_counter_7 : decode cX9_counter 7 = .ok (.if_icmp .lt 7, 3) := by decide +kernel
theorem dX9_counter_10 : decode cX9_counter 10 = .ok (.iconst (-1), 1) := by decide +kernel
theorem dX9_counter_11 : decode cX9_counter 11 = .ok (.goto 9, 3) := by decide +kernel
theorem dX9_counter_14 : decode cX9_counter 14 = .ok (.aload_n 0, 1) := by decide +kernel
theorem dX9_counter_15 : decode cX9_counter 15 = .ok (.getfield 39, 3) := by decide +kernel
theorem dX9_counter_18 : decode cX9_counter 18 = .ok (.iload_n 1, 1) := by decide +kernel
theorem dX9_counter_19 : decode cX9_counter 19 = .ok (.iaload, 1) := by decide +kernel
theorem dX9_counter_20 : decode cX9_counter 20 = .ok (.ireturn, 1) := by decide +kernel
theorem dX9_applicable_0 : decode cX9_applicable 0 = .ok (.aload_n 0, 1) := by decide +kernel
theorem dX9_applicable_1 : decode cX9_applicable 1 = .ok (.iload_n 1, 1) := by decide +kernel
theorem dX9_applicable_2 : decode cX9_applicable 2 = .ok (.invokevirtual 129, 3) := by decide +kernel
theorem dX9_applicable_5 : decode cX9_applicable 5 = .ok (.astore_n 3, 1) := by decide +kernel
theorem dX9_applicable_6 : decode cX9_applicable 6 = .ok (.aload_n 3, 1) := by decide +kernel
theorem dX9_applicable_7 : decode cX9_applicable 7 = .ok (.ifnull 11, 3) := by decide +kernel
theorem dX9_applicable_10 : decode cX9_applicable 10 = .ok (.aload_n 0, 1) := by decide +kernel
theorem dX9_applicable_11 : decode cX9_applicable 11 = .ok (.aload_n 3, 1) := by decide +kernel
theorem dX9_applicable_12 : decode cX9_applicable 12 = .ok (.invokevirtual 202, 3) := by decide +kernel
theorem dX9_applicable_15 : decode cX9_applicable 15 = .ok (.ifCond .ne 5, 3) := by decide +kernel
theorem dX9_applicable_18 : decode cX9_applicable 18 = .ok (.iconst (-1), 1) := by decide +kernel
theorem dX9_applicable_19 : decode cX9_applicable 19 = .ok (.ireturn, 1) := by decide +kernel
theorem dX9_applicable_20 : decode cX9_applicable 20 = .ok (.aload_n 3, 1) := by decide +kernel
theorem dX9_applicable_21 : decode cX9_applicable 21 = .ok (.aload_n 3, 1) := by decide +kernel
theorem dX9_applicable_22 : decode cX9_applicable 22 = .ok (.aload_n 0, 1) := by decide +kernel
theorem dX9_applicable_23 : decode cX9_applicable 23 = .ok (.getfield 45, 3) := by decide +kernel
theorem dX9_applicable_26 : decode cX9_applicable 26 = .ok (.invokevirtual 232, 3) := by decide +kernel
theorem dX9_applicable_29 : decode cX9_applicable 29 = .ok (.iload_n 2, 1) := by decide +kernel
theorem dX9_applicable_30 : decode cX9_applicable 30 = .ok (.invokestatic 236, 3) := by decide +kernel
theorem dX9_applicable_33 : decode cX9_applicable 33 = .ok (.invokevirtual 198, 3) := by decide +kernel
theorem dX9_applicable_36 : decode cX9_applicable 36 = .ok (.ireturn, 1) := by decide +kernel
theorem dX9_most_0 : decode cX9_most 0 = .ok (.aload_n 0, 1) := by decide +kernel
theorem dX9_most_1 : decode cX9_most 1 = .ok (.iload_n 1, 1) := by decide +kernel
theorem dX9_most_2 : decode cX9_most 2 = .ok (.invokevirtual 129, 3) := by decide +kernel
theorem dX9_most_5 : decode cX9_most 5 = .ok (.astore_n 2, 1) := by decide +kernel
theorem dX9_most_6 : decode cX9_most 6 = .ok (.aload_n 2, 1) := by decide +kernel
theorem dX9_most_7 : decode cX9_most 7 = .ok (.ifnull 11, 3) := by decide +kernel
theorem dX9_most_10 : decode cX9_most 10 = .ok (.aload_n 0, 1) := by decide +kernel
theorem dX9_most_11 : decode cX9_most 11 = .ok (.aload_n 2, 1) := by decide +kernel
theorem dX9_most_12 : decode cX9_most 12 = .ok (.invokevirtual 202, 3) := by decide +kernel
theorem dX9_most_15 : decode cX9_most 15 = .ok (.ifCond .ne 5, 3) := by decide +kernel
theorem dX9_most_18 : decode cX9_most 18 = .ok (.iconst (-1), 1) := by decide +kernel
theorem dX9_most_19 : decode cX9_most 19 = .ok (.ireturn, 1) := by decide +kernel
theorem dX9_most_20 : decode cX9_most 20 = .ok (.aload_n 2, 1) := by decide +kernel
theorem dX9_most_21 : decode cX9_most 21 = .ok (.aload_n 2, 1) := by decide +kernel
theorem dX9_most_22 : decode cX9_most 22 = .ok (.aload_n 2, 1) := by decide +kernel
theorem dX9_most_23 : decode cX9_most 23 = .ok (.aload_n 0, 1) := by decide +kernel
theorem dX9_most_24 : decode cX9_most 24 = .ok (.getfield 45, 3) := by decide +kernel
theorem dX9_most_27 : decode cX9_most 27 = .ok (.invokevirtual 232, 3) := by decide +kernel
theorem dX9_most_30 : decode cX9_most 30 = .ok (.invokevirtual 239, 3) := by decide +kernel
theorem dX9_most_33 : decode cX9_most 33 = .ok (.invokevirtual 198, 3) := by decide +kernel
theorem dX9_most_36 : decode cX9_most 36 = .ok (.ireturn, 1) := by decide +kernel
theorem dX9_explain_0 : decode cX9_explain 0 = .ok (.aload_n 0, 1) := by decide +kernel
theorem dX9_explain_1 : decode cX9_explain 1 = .ok (.iload_n 1, 1) := by decide +kernel
theorem dX9_explain_2 : decode cX9_explain 2 = .ok (.invokevirtual 136, 3) := by decide +kernel
theorem dX9_explain_5 : decode cX9_explain 5 = .ok (.astore_n 2, 1) := by decide +kernel
theorem dX9_explain_6 : decode cX9_explain 6 = .ok (.aload_n 2, 1) := by decide +kernel
theorem dX9_explain_7 : decode cX9_explain 7 = .ok (.ifnonnull 6, 3) := by decide +kernel
theorem dX9_explain_10 : decode cX9_explain 10 = .ok (.bipush (-2), 2) := by decide +kernel
theorem dX9_explain_12 : decode cX9_explain 12 = .ok (.ireturn, 1) := by decide +kernel
theorem dX9_explain_13 : decode cX9_explain 13 = .ok (.aload_n 0, 1) := by decide +kernel
theorem dX9_explain_14 : decode cX9_explain 14 = .ok (.aload_n 2, 1) := by decide +kernel
theorem dX9_explain_15 : decode cX9_explain 15 = .ok (.getfield 140, 3) := by decide +kernel
theorem dX9_explain_18 : decode cX9_explain 18 = .ok (.invokevirtual 202, 3) := by decide +kernel
theorem dX9_explain_21 : decode cX9_explain 21 = .ok (.ifCond .ne 6, 3) := by decide +kernel
theorem dX9_explain_24 : decode cX9_explain 24 = .ok (.bipush (-3), 2) := by decide +kernel
theorem dX9_explain_26 : decode cX9_explain 26 = .ok (.ireturn, 1) := by decide +kernel
theorem dX9_explain_27 : decode cX9_explain 27 = .ok (.aload_n 0, 1) := by decide +kernel
theorem dX9_explain_28 : decode cX9_explain 28 = .ok (.iconst (-1), 1) := by decide +kernel
theorem dX9_explain_29 : decode cX9_explain 29 = .ok (.putfield 70, 3) := by decide +kernel
theorem dX9_explain_32 : decode cX9_explain 32 = .ok (.aload_n 2, 1) := by decide +kernel
theorem dX9_explain_33 : decode cX9_explain 33 = .ok (.getfield 147, 3) := by decide +kernel
theorem dX9_explain_36 : decode cX9_explain 36 = .ok (.iconst 1, 1) := by decide +kernel
theorem dX9_explain_37 : decode cX9_explain 37 = .ok (.if_icmp .eq 5, 3) := by decide +kernel
theorem dX9_explain_40 : decode cX9_explain 40 = .ok (.iconst 1, 1) := by decide +kernel
theorem dX9_explain_41 : decode cX9_explain 41 = .ok (.ireturn, 1) := by decide +kernel
theorem dX9_explain_42 : decode cX9_explain 42 = .ok (.aload_n 2, 1) := by decide +kernel
theorem dX9_explain_43 : decode cX9_explain 43 = .ok (.getfield 182, 3) := by decide +kernel
theorem dX9_explain_46 : decode cX9_explain 46 = .ok (.ifCond .eq 5, 3) := by decide +kernel
theorem dX9_explain_49 : decode cX9_explain 49 = .ok (.iconst 2, 1) := by decide +kernel
theorem dX9_explain_50 : decode cX9_explain 50 = .ok (.ireturn, 1) := by decide +kernel
theorem dX9_explain_51 : decode cX9_explain 51 = .ok (.aload_n 2, 1) := by decide +kernel
theorem dX9_explain_52 : decode cX9_explain 52 = .ok (.aload_n 0, 1) := by decide +kernel
theorem dX9_explain_53 : decode cX9_explain 53 = .ok (.getfield 45, 3) := by decide +kernel
theorem dX9_explain_56 : decode cX9_explain 56 = .ok (.invokevirtual 242, 3) := by decide +kernel
theorem dX9_explain_59 : decode cX9_explain 59 = .ok (.istore_n 3, 1) := by decide +kernel
theorem dX9_explain_60 : decode cX9_explain 60 = .ok (.iload_n 3, 1) := by decide +kernel
theorem dX9_explain_61 : decode cX9_explain 61 = .ok (.iconst (-1), 1) := by decide +kernel
theorem dX9_explain_62 : decode cX9_explain 62 = .ok (.if_icmp .eq 10, 3) := by decide +kernel
theorem dX9_explain_65 : decode cX9_explain 65 = .ok (.aload_n 0, 1) := by decide +kernel
theorem dX9_explain_66 : decode cX9_explain 66 = .ok (.iload_n 3, 1) := by decide +kernel
theorem dX9_explain_67 : decode cX9_explain 67 = .ok (.putfield 70, 3) := by decide +kernel
theorem dX9_explain_70 : decode cX9_explain 70 = .ok (.iconst 3, 1) := by decide +kernel
theorem dX9_explain_71 : decode cX9_explain 71 = .ok (.ireturn, 1) := by decide +kernel
theorem dX9_explain_72 : decode cX9_explain 72 = .ok (.aload_n 0, 1) := by decide +kernel
theorem dX9_explain_73 : decode cX9_explain 73 = .ok (.aload_n 2, 1) := by decide +kernel
theorem dX9_explain_74 : decode cX9_explain 74 = .ok (.invokevirtual 245, 3) := by decide +kernel
theorem dX9_explain_77 : decode cX9_explain 77 = .ok (.ireturn, 1) := by decide +kernel
theorem dX9_where_0 : decode cX9_where 0 = .ok (.aload_n 0, 1) := by decide +kernel
theorem dX9_where_1 : decode cX9_where 1 = .ok (.getfield 70, 3) := by decide +kernel
theorem dX9_where_4 : decode cX9_where 4 = .ok (.ireturn, 1) := by decide +kernel
theorem dX9_count_0 : decode cX9_count 0 = .ok (.iload_n 1, 1) := by decide +kernel
theorem dX9_count_1 : decode cX9_count 1 = .ok (.iconst (-1), 1) := by decide +kernel
theorem dX9_count_2 : decode cX9_count 2 = .ok (.if_icmp .ne 9, 3) := by decide +kernel
theorem dX9_count_5 : decode cX9_count 5 = .ok (.aload_n 0, 1) := by decide +kernel
theorem dX9_count_6 : decode cX9_count 6 = .ok (.iload_n 2, 1) := by decide +kernel
theorem dX9_count_7 : decode cX9_count 7 = .ok (.invokevirtual 249, 3) := by decide +kernel
theorem dX9_count_10 : decode cX9_count 10 = .ok (.ireturn, 1) := by decide +kernel
theorem dX9_count_11 : decode cX9_count 11 = .ok (.aload_n 0, 1) := by decide +kernel
theorem dX9_count_12 : decode cX9_count 12 = .ok (.iload_n 1, 1) := by decide +kernel
theorem dX9_count_13 : decode cX9_count 13 = .ok (.invokevirtual 129, 3) := by decide +kernel
theorem dX9_count_16 : decode cX9_count 16 = .ok (.astore_n 3, 1) := by decide +kernel
theorem dX9_count_17 : decode cX9_count 17 = .ok (.aload_n 3, 1) := by decide +kernel
theorem dX9_count_18 : decode cX9_count 18 = .ok (.ifnonnull 6, 3) := by decide +kernel
theorem dX9_count_21 : decode cX9_count 21 = .ok (.bipush (-2), 2) := by decide +kernel
theorem dX9_count_23 : decode cX9_count 23 = .ok (.ireturn, 1) := by decide +kernel
theorem dX9_count_24 : decode cX9_count 24 = .ok (.iload_n 2, 1) := by decide +kernel
theorem dX9_count_25 : decode cX9_count 25 = .ok (.tableswitch 74 0 4 #[35, 40, 45, 58, 66], 35) := by decide +kernel
theorem dX9_count_60 : decode cX9_count 60 = .ok (.aload_n 3, 1) := by decide +kernel
theorem dX9_count_61 : decode cX9_count 61 = .ok (.getfield 252, 3) := by decide +kernel
theorem dX9_count_64 : decode cX9_count 64 = .ok (.ireturn, 1) := by decide +kernel
theorem dX9_count_65 : decode cX9_count 65 = .ok (.aload_n 3, 1) := by decide +kernel
theorem dX9_count_66 : decode cX9_count 66 = .ok (.getfield 192, 3) := by decide +kernel
theorem dX9_count_69 : decode cX9_count 69 = .ok (.ireturn, 1) := by decide +kernel
theorem dX9_count_70 : decode cX9_count 70 = .ok (.aload_n 3, 1) := by decide +kernel
theorem dX9_count_71 : decode cX9_count 71 = .ok (.getfield 159, 3) := by decide +kernel
theorem dX9_count_74 : decode cX9_count 74 = .ok (.ifCond .eq 7, 3) := by decide +kernel
theorem dX9_count_77 : decode cX9_count 77 = .ok (.iconst 1, 1) := by decide +kernel
theorem dX9_count_78 : decode cX9_count 78 = .ok (.goto 4, 3) := by decide +kernel
theorem dX9_count_81 : decode cX9_count 81 = .ok (.iconst 0, 1) := by decide +kernel
theorem dX9_count_82 : decode cX9_count 82 = .ok (.ireturn, 1) := by decide +kernel
theorem dX9_count_83 : decode cX9_count 83 = .ok (.aload_n 3, 1) := by decide +kernel
theorem dX9_count_84 : decode cX9_count 84 = .ok (.getfield 255, 3) := by decide +kernel
theorem dX9_count_87 : decode cX9_count 87 = .ok (.getfield 259, 3) := by decide +kernel
theorem dX9_count_90 : decode cX9_count 90 = .ok (.ireturn, 1) := by decide +kernel
theorem dX9_count_91 : decode cX9_count 91 = .ok (.aload_n 3, 1) := by decide +kernel
theorem dX9_count_92 : decode cX9_count 92 = .ok (.getfield 255, 3) := by decide +kernel
theorem dX9_count_95 : decode cX9_count 95 = .ok (.getfield 264, 3) := by decide +kernel
theorem dX9_count_98 : decode cX9_count 98 = .ok (.ireturn, 1) := by decide +kernel
theorem dX9_count_99 : decode cX9_count 99 = .ok (.bipush (-2), 2) := by decide +kernel
theorem dX9_count_101 : decode cX9_count 101 = .ok (.ireturn, 1) := by decide +kernel
theorem dX9_covered_0 : decode cX9_covered 0 = .ok (.aload_n 0, 1) := by decide +kernel
theorem dX9_covered_1 : decode cX9_covered 1 = .ok (.iload_n 1, 1) := by decide +kernel
theorem dX9_covered_2 : decode cX9_covered 2 = .ok (.invokevirtual 129, 3) := by decide +kernel
theorem dX9_covered_5 : decode cX9_covered 5 = .ok (.astore_n 2, 1) := by decide +kernel
theorem dX9_covered_6 : decode cX9_covered 6 = .ok (.aload_n 2, 1) := by decide +kernel
theorem dX9_covered_7 : decode cX9_covered 7 = .ok (.ifnonnull 6, 3) := by decide +kernel
theorem dX9_covered_10 : decode cX9_covered 10 = .ok (.bipush (-2), 2) := by decide +kernel
theorem dX9_covered_12 : decode cX9_covered 12 = .ok (.ireturn, 1) := by decide +kernel
theorem dX9_covered_13 : decode cX9_covered 13 = .ok (.aload_n 0, 1) := by decide +kernel
theorem dX9_covered_14 : decode cX9_covered 14 = .ok (.getfield 59, 3) := by decide +kernel
theorem dX9_covered_17 : decode cX9_covered 17 = .ok (.aload_n 2, 1) := by decide +kernel
theorem dX9_covered_18 : decode cX9_covered 18 = .ok (.invokevirtual 265, 3) := by decide +kernel
theorem dX9_covered_21 : decode cX9_covered 21 = .ok (.ifCond .eq 7, 3) := by decide +kernel
theorem dX9_covered_24 : decode cX9_covered 24 = .ok (.iconst 0, 1) := by decide +kernel
theorem dX9_covered_25 : decode cX9_covered 25 = .ok (.goto 4, 3) := by decide +kernel
theorem dX9_covered_28 : decode cX9_covered 28 = .ok (.iconst 1, 1) := by decide +kernel
theorem dX9_covered_29 : decode cX9_covered 29 = .ok (.ireturn, 1) := by decide +kernel
theorem dX9_hole_0 : decode cX9_hole 0 = .ok (.aload_n 0, 1) := by decide +kernel
theorem dX9_hole_1 : decode cX9_hole 1 = .ok (.iload_n 1, 1) := by decide +kernel
theorem dX9_hole_2 : decode cX9_hole 2 = .ok (.invokevirtual 129, 3) := by decide +kernel
theorem dX9_hole_5 : decode cX9_hole 5 = .ok (.astore_n 3, 1) := by decide +kernel
theorem dX9_hole_6 : decode cX9_hole 6 = .ok (.aload_n 3, 1) := by decide +kernel
theorem dX9_hole_7 : decode cX9_hole 7 = .ok (.ifnull 23, 3) := by decide +kernel
theorem dX9_hole_10 : decode cX9_hole 10 = .ok (.iload_n 2, 1) := by decide +kernel
theorem dX9_hole_11 : decode cX9_hole 11 = .ok (.ifCond .lt 19, 3) := by decide +kernel
theorem dX9_hole_14 : decode cX9_hole 14 = .ok (.iload_n 2, 1) := by decide +kernel
theorem dX9_hole_15 : decode cX9_hole 15 = .ok (.iconst 3, 1) := by decide +kernel
theorem dX9_hole_16 : decode cX9_hole 16 = .ok (.if_icmp .gt 14, 3) := by decide +kernel
theorem dX9_hole_19 : decode cX9_hole 19 = .ok (.aload_n 0, 1) := by decide +kernel
theorem dX9_hole_20 : decode cX9_hole 20 = .ok (.getfield 59, 3) := by decide +kernel
theorem dX9_hole_23 : decode cX9_hole 23 = .ok (.aload_n 3, 1) := by decide +kernel
theorem dX9_hole_24 : decode cX9_hole 24 = .ok (.invokevirtual 265, 3) := by decide +kernel
theorem dX9_hole_27 : decode cX9_hole 27 = .ok (.ifCond .ne 7, 3) := by decide +kernel
theorem dX9_hole_30 : decode cX9_hole 30 = .ok (.ldc2_w 268, 3) := by decide +kernel
theorem dX9_hole_33 : decode cX9_hole 33 = .ok (.lreturn, 1) := by decide +kernel
theorem dX9_hole_34 : decode cX9_hole 34 = .ok (.aload_n 0, 1) := by decide +kernel
theorem dX9_hole_35 : decode cX9_hole 35 = .ok (.getfield 59, 3) := by decide +kernel
theorem dX9_hole_38 : decode cX9_hole 38 = .ok (.iload_n 2, 1) := by decide +kernel
theorem dX9_hole_39 : decode cX9_hole 39 = .ok (.invokevirtual 270, 3) := by decide +kernel
theorem dX9_hole_42 : decode cX9_hole 42 = .ok (.i2l, 1) := by decide +kernel
theorem dX9_hole_43 : decode cX9_hole 43 = .ok (.lreturn, 1) := by decide +kernel
theorem dX9_doubt_0 : decode cX9_doubt 0 = .ok (.aload_n 0, 1) := by decide +kernel
theorem dX9_doubt_1 : decode cX9_doubt 1 = .ok (.iload_n 1, 1) := by decide +kernel
theorem dX9_doubt_2 : decode cX9_doubt 2 = .ok (.invokevirtual 129, 3) := by decide +kernel
theorem dX9_doubt_5 : decode cX9_doubt 5 = .ok (.astore 4, 2) := by decide +kernel
theorem dX9_doubt_7 : decode cX9_doubt 7 = .ok (.aload 4, 2) := by decide +kernel
theorem dX9_doubt_9 : decode cX9_doubt 9 = .ok (.ifnull 29, 3) := by decide +kernel
theorem dX9_doubt_12 : decode cX9_doubt 12 = .ok (.iload_n 2, 1) := by decide +kernel
theorem dX9_doubt_13 : decode cX9_doubt 13 = .ok (.ifCond .lt 25, 3) := by decide +kernel
theorem dX9_doubt_16 : decode cX9_doubt 16 = .ok (.iload_n 3, 1) := by decide +kernel
theorem dX9_doubt_17 : decode cX9_doubt 17 = .ok (.ifCond .lt 21, 3) := by decide +kernel
theorem dX9_doubt_20 : decode cX9_doubt 20 = .ok (.iload_n 3, 1) := by decide +kernel
theorem dX9_doubt_21 : decode cX9_doubt 21 = .ok (.iconst 5, 1) := by decide +kernel
theorem dX9_doubt_22 : decode cX9_doubt 22 = .ok (.if_icmp .gt 16, 3) := by decide +kernel
theorem dX9_doubt_25 : decode cX9_doubt 25 = .ok (.aload_n 0, 1) := by decide +kernel
theorem dX9_doubt_26 : decode cX9_doubt 26 = .ok (.getfield 59, 3) := by decide +kernel
theorem dX9_doubt_29 : decode cX9_doubt 29 = .ok (.aload 4, 2) := by decide +kernel
theorem dX9_doubt_31 : decode cX9_doubt 31 = .ok (.iload_n 2, 1) := by decide +kernel
theorem dX9_doubt_32 : decode cX9_doubt 32 = .ok (.invokevirtual 273, 3) := by decide +kernel
theorem dX9_doubt_35 : decode cX9_doubt 35 = .ok (.ifCond .ne 7, 3) := by decide +kernel
theorem dX9_doubt_38 : decode cX9_doubt 38 = .ok (.ldc2_w 268, 3) := by decide +kernel
theorem dX9_doubt_41 : decode cX9_doubt 41 = .ok (.lreturn, 1) := by decide +kernel
theorem dX9_doubt_42 : decode cX9_doubt 42 = .ok (.iload_n 3, 1) := by decide +kernel
theorem dX9_doubt_43 : decode cX9_doubt 43 = .ok (.lookupswitch 53 #[(0, 25), (1, 39)], 25) := by decide +kernel
theorem dX9_doubt_68 : decode cX9_doubt 68 = .ok (.aload 4, 2) := by decide +kernel
theorem dX9_doubt_70 : decode cX9_doubt 70 = .ok (.aload_n 0, 1) := by decide +kernel
theorem dX9_doubt_71 : decode cX9_doubt 71 = .ok (.getfield 59, 3) := by decide +kernel
theorem dX9_doubt_74 : decode cX9_doubt 74 = .ok (.getfield 277, 3) := by decide +kernel
theorem dX9_doubt_77 : decode cX9_doubt 77 = .ok (.invokevirtual 198, 3) := by decide +kernel
theorem dX9_doubt_80 : decode cX9_doubt 80 = .ok (.i2l, 1) := by decide +kernel
theorem dX9_doubt_81 : decode cX9_doubt 81 = .ok (.lreturn, 1) := by decide +kernel
theorem dX9_doubt_82 : decode cX9_doubt 82 = .ok (.aload 4, 2) := by decide +kernel
theorem dX9_doubt_84 : decode cX9_doubt 84 = .ok (.aload_n 0, 1) := by decide +kernel
theorem dX9_doubt_85 : decode cX9_doubt 85 = .ok (.getfield 59, 3) := by decide +kernel
theorem dX9_doubt_88 : decode cX9_doubt 88 = .ok (.getfield 280, 3) := by decide +kernel
theorem dX9_doubt_91 : decode cX9_doubt 91 = .ok (.invokevirtual 198, 3) := by decide +kernel
theorem dX9_doubt_94 : decode cX9_doubt 94 = .ok (.i2l, 1) := by decide +kernel
theorem dX9_doubt_95 : decode cX9_doubt 95 = .ok (.lreturn, 1) := by decide +kernel
theorem dX9_doubt_96 : decode cX9_doubt 96 = .ok (.aload_n 0, 1) := by decide +kernel
theorem dX9_doubt_97 : decode cX9_doubt 97 = .ok (.getfield 59, 3) := by decide +kernel
theorem dX9_doubt_100 : decode cX9_doubt 100 = .ok (.iload_n 3, 1) := by decide +kernel
theorem dX9_doubt_101 : decode cX9_doubt 101 = .ok (.iconst 2, 1) := by decide +kernel
theorem dX9_doubt_102 : decode cX9_doubt 102 = .ok (.isub, 1) := by decide +kernel
theorem dX9_doubt_103 : decode cX9_doubt 103 = .ok (.invokevirtual 270, 3) := by decide +kernel
theorem dX9_doubt_106 : decode cX9_doubt 106 = .ok (.i2l, 1) := by decide +kernel
theorem dX9_doubt_107 : decode cX9_doubt 107 = .ok (.lreturn, 1) := by decide +kernel
theorem dX9_isClass_0 : decode cX9_isClass 0 = .ok (.iload_n 0, 1) := by decide +kernel
theorem dX9_isClass_1 : decode cX9_isClass 1 = .ok (.ifCond .lt 13, 3) := by decide +kernel
theorem dX9_isClass_4 : decode cX9_isClass 4 = .ok (.iload_n 0, 1) := by decide +kernel
theorem dX9_isClass_5 : decode cX9_isClass 5 = .ok (.bipush 12, 2) := by decide +kernel
theorem dX9_isClass_7 : decode cX9_isClass 7 = .ok (.if_icmp .ge 7, 3) := by decide +kernel
theorem dX9_isClass_10 : decode cX9_isClass 10 = .ok (.iconst 1, 1) := by decide +kernel
theorem dX9_isClass_11 : decode cX9_isClass 11 = .ok (.goto 4, 3) := by decide +kernel
theorem dX9_isClass_14 : decode cX9_isClass 14 = .ok (.iconst 0, 1) := by decide +kernel
theorem dX9_isClass_15 : decode cX9_isClass 15 = .ok (.ireturn, 1) := by decide +kernel
theorem dX9_isTrait_0 : decode cX9_isTrait 0 = .ok (.iload_n 0, 1) := by decide +kernel
theorem dX9_isTrait_1 : decode cX9_isTrait 1 = .ok (.bipush 12, 2) := by decide +kernel
theorem dX9_isTrait_3 : decode cX9_isTrait 3 = .ok (.if_icmp .lt 13, 3) := by decide +kernel
theorem dX9_isTrait_6 : decode cX9_isTrait 6 = .ok (.iload_n 0, 1) := by decide +kernel
theorem dX9_isTrait_7 : decode cX9_isTrait 7 = .ok (.bipush 16, 2) := by decide +kernel
theorem dX9_isTrait_9 : decode cX9_isTrait 9 = .ok (.if_icmp .ge 7, 3) := by decide +kernel
theorem dX9_isTrait_12 : decode cX9_isTrait 12 = .ok (.iconst 1, 1) := by decide +kernel
theorem dX9_isTrait_13 : decode cX9_isTrait 13 = .ok (.goto 4, 3) := by decide +kernel
theorem dX9_isTrait_16 : decode cX9_isTrait 16 = .ok (.iconst 0, 1) := by decide +kernel
theorem dX9_isTrait_17 : decode cX9_isTrait 17 = .ok (.ireturn, 1) := by decide +kernel
theorem dX9_isCode_0 : decode cX9_isCode 0 = .ok (.iload_n 0, 1) := by decide +kernel
theorem dX9_isCode_1 : decode cX9_isCode 1 = .ok (.ifCond .lt 13, 3) := by decide +kernel
theorem dX9_isCode_4 : decode cX9_isCode 4 = .ok (.iload_n 0, 1) := by decide +kernel
theorem dX9_isCode_5 : decode cX9_isCode 5 = .ok (.bipush 16, 2) := by decide +kernel
theorem dX9_isCode_7 : decode cX9_isCode 7 = .ok (.if_icmp .ge 7, 3) := by decide +kernel
theorem dX9_isCode_10 : decode cX9_isCode 10 = .ok (.iconst 1, 1) := by decide +kernel
theorem dX9_isCode_11 : decode cX9_isCode 11 = .ok (.goto 4, 3) := by decide +kernel
theorem dX9_isCode_14 : decode cX9_isCode 14 = .ok (.iconst 0, 1) := by decide +kernel
theorem dX9_isCode_15 : decode cX9_isCode 15 = .ok (.ireturn, 1) := by decide +kernel
theorem dX9_elementOrZero_0 : decode cX9_elementOrZero 0 = .ok (.iload_n 1, 1) := by decide +kernel
theorem dX9_elementOrZero_1 : decode cX9_elementOrZero 1 = .ok (.ifCond .lt 15, 3) := by decide +kernel
theorem dX9_elementOrZero_4 : decode cX9_elementOrZero 4 = .ok (.iload_n 1, 1) := by decide +kernel
theorem dX9_elementOrZero_5 : decode cX9_elementOrZero 5 = .ok (.aload_n 0, 1) := by decide +kernel
theorem dX9_elementOrZero_6 : decode cX9_elementOrZero 6 = .ok (.arraylength, 1) := by decide +kernel
theorem dX9_elementOrZero_7 : decode cX9_elementOrZero 7 = .ok (.if_icmp .ge 9, 3) := by decide +kernel
theorem dX9_elementOrZero_10 : decode cX9_elementOrZero 10 = .ok (.aload_n 0, 1) := by decide +kernel
theorem dX9_elementOrZero_11 : decode cX9_elementOrZero 11 = .ok (.iload_n 1, 1) := by decide +kernel
theorem dX9_elementOrZero_12 : decode cX9_elementOrZero 12 = .ok (.iaload, 1) := by decide +kernel
theorem dX9_elementOrZero_13 : decode cX9_elementOrZero 13 = .ok (.goto 4, 3) := by decide +kernel
theorem dX9_elementOrZero_16 : decode cX9_elementOrZero 16 = .ok (.iconst 0, 1) := by decide +kernel
theorem dX9_elementOrZero_17 : decode cX9_elementOrZero 17 = .ok (.ireturn, 1) := by decide +kernel
theorem dX9_memberAt_0 : decode cX9_memberAt 0 = .ok (.iconst 0, 1) := by decide +kernel
theorem dX9_memberAt_1 : decode cX9_memberAt 1 = .ok (.istore_n 2, 1) := by decide +kernel
theorem dX9_memberAt_2 : decode cX9_memberAt 2 = .ok (.iconst 0, 1) := by decide +kernel
theorem dX9_memberAt_3 : decode cX9_memberAt 3 = .ok (.istore_n 3, 1) := by decide +kernel
theorem dX9_memberAt_4 : decode cX9_memberAt 4 = .ok (.iload_n 3, 1) := by decide +kernel
theorem dX9_memberAt_5 : decode cX9_memberAt 5 = .ok (.bipush 8, 2) := by decide +kernel
theorem dX9_memberAt_7 : decode cX9_memberAt 7 = .ok (.if_icmp .ge 27, 3) := by decide +kernel
theorem dX9_memberAt_10 : decode cX9_memberAt 10 = .ok (.iload_n 0, 1) := by decide +kernel
theorem dX9_memberAt_11 : decode cX9_memberAt 11 = .ok (.iconst 1, 1) := by decide +kernel
theorem dX9_memberAt_12 : decode cX9_memberAt 12 = .ok (.iload_n 3, 1) := by decide +kernel
theorem dX9_memberAt_13 : decode cX9_memberAt 13 = .ok (.ishl, 1) := by decide +kernel
theorem dX9_memberAt_14 : decode cX9_memberAt 14 = .ok (.iand, 1) := by decide +kernel
theorem dX9_memberAt_15 : decode cX9_memberAt 15 = .ok (.ifCond .eq 13, 3) := by decide +kernel
theorem dX9_memberAt_18 : decode cX9_memberAt 18 = .ok (.iload_n 2, 1) := by decide +kernel
theorem dX9_memberAt_19 : decode cX9_memberAt 19 = .ok (.iload_n 1, 1) := by decide +kernel
theorem dX9_memberAt_20 : decode cX9_memberAt 20 = .ok (.if_icmp .ne 5, 3) := by decide +kernel
theorem dX9_memberAt_23 : decode cX9_memberAt 23 = .ok (.iload_n 3, 1) := by decide +kernel
theorem dX9_memberAt_24 : decode cX9_memberAt 24 = .ok (.ireturn, 1) := by decide +kernel
theorem dX9_memberAt_25 : decode cX9_memberAt 25 = .ok (.iinc 2 1, 3) := by decide +kernel
theorem dX9_memberAt_28 : decode cX9_memberAt 28 = .ok (.iinc 3 1, 3) := by decide +kernel
theorem dX9_memberAt_31 : decode cX9_memberAt 31 = .ok (.goto (-27), 3) := by decide +kernel
theorem dX9_memberAt_34 : decode cX9_memberAt 34 = .ok (.iconst (-1), 1) := by decide +kernel
theorem dX9_memberAt_35 : decode cX9_memberAt 35 = .ok (.ireturn, 1) := by decide +kernel
theorem dX9_functionAt_0 : decode cX9_functionAt 0 = .ok (.iload_n 1, 1) := by decide +kernel
theorem dX9_functionAt_1 : decode cX9_functionAt 1 = .ok (.ifCond .lt 20, 3) := by decide +kernel
theorem dX9_functionAt_4 : decode cX9_functionAt 4 = .ok (.iload_n 1, 1) := by decide +kernel
theorem dX9_functionAt_5 : decode cX9_functionAt 5 = .ok (.aload_n 0, 1) := by decide +kernel
theorem dX9_functionAt_6 : decode cX9_functionAt 6 = .ok (.getfield 63, 3) := by decide +kernel
theorem dX9_functionAt_9 : decode cX9_functionAt 9 = .ok (.if_icmp .ge 12, 3) := by decide +kernel
theorem dX9_functionAt_12 : decode cX9_functionAt 12 = .ok (.aload_n 0, 1) := by decide +kernel
theorem dX9_functionAt_13 : decode cX9_functionAt 13 = .ok (.getfield 25, 3) := by decide +kernel
theorem dX9_functionAt_16 : decode cX9_functionAt 16 = .ok (.iload_n 1, 1) := by decide +kernel
theorem dX9_functionAt_17 : decode cX9_functionAt 17 = .ok (.aaload, 1) := by decide +kernel
theorem dX9_functionAt_18 : decode cX9_functionAt 18 = .ok (.goto 4, 3) := by decide +kernel
theorem dX9_functionAt_21 : decode cX9_functionAt 21 = .ok (.aconst_null, 1) := by decide +kernel
theorem dX9_functionAt_22 : decode cX9_functionAt 22 = .ok (.areturn, 1) := by decide +kernel
theorem dX9_handlerAt_0 : decode cX9_handlerAt 0 = .ok (.iload_n 1, 1) := by decide +kernel
theorem dX9_handlerAt_1 : decode cX9_handlerAt 1 = .ok (.ifCond .lt 20, 3) := by decide +kernel
theorem dX9_handlerAt_4 : decode cX9_handlerAt 4 = .ok (.iload_n 1, 1) := by decide +kernel
theorem dX9_handlerAt_5 : decode cX9_handlerAt 5 = .ok (.aload_n 0, 1) := by decide +kernel
theorem dX9_handlerAt_6 : decode cX9_handlerAt 6 = .ok (.getfield 67, 3) := by decide +kernel
theorem dX9_handlerAt_9 : decode cX9_handlerAt 9 = .ok (.if_icmp .ge 12, 3) := by decide +kernel
theorem dX9_handlerAt_12 : decode cX9_handlerAt 12 = .ok (.aload_n 0, 1) := by decide +kernel
theorem dX9_handlerAt_13 : decode cX9_handlerAt 13 = .ok (.getfield 31, 3) := by decide +kernel
theorem dX9_handlerAt_16 : decode cX9_handlerAt 16 = .ok (.iload_n 1, 1) := by decide +kernel
theorem dX9_handlerAt_17 : decode cX9_handlerAt 17 = .ok (.aaload, 1) := by decide +kernel
theorem dX9_handlerAt_18 : decode cX9_handlerAt 18 = .ok (.goto 4, 3) := by decide +kernel
theorem dX9_handlerAt_21 : decode cX9_handlerAt 21 = .ok (.aconst_null, 1) := by decide +kernel
theorem dX9_handlerAt_22 : decode cX9_handlerAt 22 = .ok (.areturn, 1) := by decide +kernel
theorem dX9_readToldRow_0 : decode cX9_readToldRow 0 = .ok (.iconst 0, 1) := by decide +kernel
theorem dX9_readToldRow_1 : decode cX9_readToldRow 1 = .ok (.istore_n 2, 1) := by decide +kernel
theorem dX9_readToldRow_2 : decode cX9_readToldRow 2 = .ok (.iload_n 2, 1) := by decide +kernel
theorem dX9_readToldRow_3 : decode cX9_readToldRow 3 = .ok (.aload_n 1, 1) := by decide +kernel
theorem dX9_readToldRow_4 : decode cX9_readToldRow 4 = .ok (.getfield 252, 3) := by decide +kernel
theorem dX9_readToldRow_7 : decode cX9_readToldRow 7 = .ok (.if_icmp .ge 65, 3) := by decide +kernel
theorem dX9_readToldRow_10 : decode cX9_readToldRow 10 = .ok (.aload_n 0, 1) := by decide +kernel
theorem dX9_readToldRow_11 : decode cX9_readToldRow 11 = .ok (.getfield 35, 3) := by decide +kernel
theorem dX9_readToldRow_14 : decode cX9_readToldRow 14 = .ok (.iload_n 2, 1) := by decide +kernel
theorem dX9_readToldRow_15 : decode cX9_readToldRow 15 = .ok (.iaload, 1) := by decide +kernel
theorem dX9_readToldRow_16 : decode cX9_readToldRow 16 = .ok (.istore_n 3, 1) := by decide +kernel
theorem dX9_readToldRow_17 : decode cX9_readToldRow 17 = .ok (.aload_n 0, 1) := by decide +kernel
theorem dX9_readToldRow_18 : decode cX9_readToldRow 18 = .ok (.getfield 19, 3) := by decide +kernel
theorem dX9_readToldRow_21 : decode cX9_readToldRow 21 = .ok (.iload_n 3, 1) := by decide +kernel
theorem dX9_readToldRow_22 : decode cX9_readToldRow 22 = .ok (.invokevirtual 114, 3) := by decide +kernel
theorem dX9_readToldRow_25 : decode cX9_readToldRow 25 = .ok (.ifCond .ne 5, 3) := by decide +kernel
theorem dX9_readToldRow_28 : decode cX9_readToldRow 28 = .ok (.iconst 0, 1) := by decide +kernel
theorem dX9_readToldRow_29 : decode cX9_readToldRow 29 = .ok (.ireturn, 1) := by decide +kernel
theorem dX9_readToldRow_30 : decode cX9_readToldRow 30 = .ok (.aload_n 0, 1) := by decide +kernel
theorem dX9_readToldRow_31 : decode cX9_readToldRow 31 = .ok (.getfield 45, 3) := by decide +kernel
theorem dX9_readToldRow_34 : decode cX9_readToldRow 34 = .ok (.getfield 283, 3) := by decide +kernel
theorem dX9_readToldRow_37 : decode cX9_readToldRow 37 = .ok (.iload_n 2, 1) := by decide +kernel
theorem dX9_readToldRow_38 : decode cX9_readToldRow 38 = .ok (.aload_n 0, 1) := by decide +kernel
theorem dX9_readToldRow_39 : decode cX9_readToldRow 39 = .ok (.getfield 19, 3) := by decide +kernel
theorem dX9_readToldRow_42 : decode cX9_readToldRow 42 = .ok (.getfield 117, 3) := by decide +kernel
theorem dX9_readToldRow_45 : decode cX9_readToldRow 45 = .ok (.iload_n 3, 1) := by decide +kernel
theorem dX9_readToldRow_46 : decode cX9_readToldRow 46 = .ok (.iaload, 1) := by decide +kernel
theorem dX9_readToldRow_47 : decode cX9_readToldRow 47 = .ok (.iastore, 1) := by decide +kernel
theorem dX9_readToldRow_48 : decode cX9_readToldRow 48 = .ok (.aload_n 0, 1) := by decide +kernel
theorem dX9_readToldRow_49 : decode cX9_readToldRow 49 = .ok (.getfield 45, 3) := by decide +kernel
theorem dX9_readToldRow_52 : decode cX9_readToldRow 52 = .ok (.getfield 284, 3) := by decide +kernel
theorem dX9_readToldRow_55 : decode cX9_readToldRow 55 = .ok (.iload_n 2, 1) := by decide +kernel
theorem dX9_readToldRow_56 : decode cX9_readToldRow 56 = .ok (.aload_n 0, 1) := by decide +kernel
theorem dX9_readToldRow_57 : decode cX9_readToldRow 57 = .ok (.getfield 19, 3) := by decide +kernel
theorem dX9_readToldRow_60 : decode cX9_readToldRow 60 = .ok (.getfield 120, 3) := by decide +kernel
theorem dX9_readToldRow_63 : decode cX9_readToldRow 63 = .ok (.iload_n 3, 1) := by decide +kernel
theorem dX9_readToldRow_64 : decode cX9_readToldRow 64 = .ok (.iaload, 1) := by decide +kernel
theorem dX9_readToldRow_65 : decode cX9_readToldRow 65 = .ok (.iastore, 1) := by decide +kernel
theorem dX9_readToldRow_66 : decode cX9_readToldRow 66 = .ok (.iinc 2 1, 3) := by decide +kernel
theorem dX9_readToldRow_69 : decode cX9_readToldRow 69 = .ok (.goto (-67), 3) := by decide +kernel
theorem dX9_readToldRow_72 : decode cX9_readToldRow 72 = .ok (.aload_n 0, 1) := by decide +kernel
theorem dX9_readToldRow_73 : decode cX9_readToldRow 73 = .ok (.getfield 45, 3) := by decide +kernel
theorem dX9_readToldRow_76 : decode cX9_readToldRow 76 = .ok (.aload_n 1, 1) := by decide +kernel
theorem dX9_readToldRow_77 : decode cX9_readToldRow 77 = .ok (.getfield 252, 3) := by decide +kernel
theorem dX9_readToldRow_80 : decode cX9_readToldRow 80 = .ok (.putfield 285, 3) := by decide +kernel
theorem dX9_readToldRow_83 : decode cX9_readToldRow 83 = .ok (.iconst 1, 1) := by decide +kernel
theorem dX9_readToldRow_84 : decode cX9_readToldRow 84 = .ok (.ireturn, 1) := by decide +kernel
theorem dX9_countOfAll_0 : decode cX9_countOfAll 0 = .ok (.iload_n 1, 1) := by decide +kernel
theorem dX9_countOfAll_1 : decode cX9_countOfAll 1 = .ok (.tableswitch 77 0 4 #[35, 40, 45, 61, 69], 35) := by decide +kernel
theorem dX9_countOfAll_36 : decode cX9_countOfAll 36 = .ok (.aload_n 0, 1) := by decide +kernel
theorem dX9_countOfAll_37 : decode cX9_countOfAll 37 = .ok (.getfield 63, 3) := by decide +kernel
theorem dX9_countOfAll_40 : decode cX9_countOfAll 40 = .ok (.ireturn, 1) := by decide +kernel
theorem dX9_countOfAll_41 : decode cX9_countOfAll 41 = .ok (.aload_n 0, 1) := by decide +kernel
theorem dX9_countOfAll_42 : decode cX9_countOfAll 42 = .ok (.getfield 67, 3) := by decide +kernel
theorem dX9_countOfAll_45 : decode cX9_countOfAll 45 = .ok (.ireturn, 1) := by decide +kernel
theorem dX9_countOfAll_46 : decode cX9_countOfAll 46 = .ok (.aload_n 0, 1) := by decide +kernel
theorem dX9_countOfAll_47 : decode cX9_countOfAll 47 = .ok (.getfield 12, 3) := by decide +kernel
theorem dX9_countOfAll_50 : decode cX9_countOfAll 50 = .ok (.getfield 77, 3) := by decide +kernel
theorem dX9_countOfAll_53 : decode cX9_countOfAll 53 = .ok (.ifCond .eq 7, 3) := by decide +kernel
theorem dX9_countOfAll_56 : decode cX9_countOfAll 56 = .ok (.iconst 1, 1) := by decide +kernel
theorem dX9_countOfAll_57 : decode cX9_countOfAll 57 = .ok (.goto 4, 3) := by decide +kernel
theorem dX9_countOfAll_60 : decode cX9_countOfAll 60 = .ok (.iconst 0, 1) := by decide +kernel
theorem dX9_countOfAll_61 : decode cX9_countOfAll 61 = .ok (.ireturn, 1) := by decide +kernel
theorem dX9_countOfAll_62 : decode cX9_countOfAll 62 = .ok (.aload_n 0, 1) := by decide +kernel
theorem dX9_countOfAll_63 : decode cX9_countOfAll 63 = .ok (.getfield 52, 3) := by decide +kernel
theorem dX9_countOfAll_66 : decode cX9_countOfAll 66 = .ok (.getfield 226, 3) := by decide +kernel
theorem dX9_countOfAll_69 : decode cX9_countOfAll 69 = .ok (.ireturn, 1) := by decide +kernel
theorem dX9_countOfAll_70 : decode cX9_countOfAll 70 = .ok (.aload_n 0, 1) := by decide +kernel
theorem dX9_countOfAll_71 : decode cX9_countOfAll 71 = .ok (.getfield 52, 3) := by decide +kernel
theorem dX9_countOfAll_74 : decode cX9_countOfAll 74 = .ok (.getfield 209, 3) := by decide +kernel
theorem dX9_countOfAll_77 : decode cX9_countOfAll 77 = .ok (.ireturn, 1) := by decide +kernel
theorem dX9_countOfAll_78 : decode cX9_countOfAll 78 = .ok (.bipush (-2), 2) := by decide +kernel
theorem dX9_countOfAll_80 : decode cX9_countOfAll 80 = .ok (.ireturn, 1) := by decide +kernel
theorem dX9_explainAmongTakers_0 : decode cX9_explainAmongTakers 0 = .ok (.aload_n 1, 1) := by decide +kernel
theorem dX9_explainAmongTakers_1 : decode cX9_explainAmongTakers 1 = .ok (.getfield 140, 3) := by decide +kernel
theorem dX9_explainAmongTakers_4 : decode cX9_explainAmongTakers 4 = .ok (.astore_n 2, 1) := by decide +kernel
theorem dX9_explainAmongTakers_5 : decode cX9_explainAmongTakers 5 = .ok (.aload_n 2, 1) := by decide +kernel
theorem dX9_explainAmongTakers_6 : decode cX9_explainAmongTakers 6 = .ok (.aload_n 1, 1) := by decide +kernel
theorem dX9_explainAmongTakers_7 : decode cX9_explainAmongTakers 7 = .ok (.invokevirtual 286, 3) := by decide +kernel
theorem dX9_explainAmongTakers_10 : decode cX9_explainAmongTakers 10 = .ok (.istore_n 3, 1) := by decide +kernel
theorem dX9_explainAmongTakers_11 : decode cX9_explainAmongTakers 11 = .ok (.aload_n 2, 1) := by decide +kernel
theorem dX9_explainAmongTakers_12 : decode cX9_explainAmongTakers 12 = .ok (.aload_n 0, 1) := by decide +kernel
theorem dX9_explainAmongTakers_13 : decode cX9_explainAmongTakers 13 = .ok (.getfield 45, 3) := by decide +kernel
theorem dX9_explainAmongTakers_16 : decode cX9_explainAmongTakers 16 = .ok (.invokevirtual 232, 3) := by decide +kernel
theorem dX9_explainAmongTakers_19 : decode cX9_explainAmongTakers 19 = .ok (.istore 4, 2) := by decide +kernel
theorem dX9_explainAmongTakers_21 : decode cX9_explainAmongTakers 21 = .ok (.iload 4, 2) := by decide +kernel
theorem dX9_explainAmongTakers_23 : decode cX9_explainAmongTakers 23 = .ok (.aload_n 2, 1) := by decide +kernel
theorem dX9_explainAmongTakers_24 : decode cX9_explainAmongTakers 24 = .ok (.iload_n 3, 1) := by decide +kernel
theorem dX9_explainAmongTakers_25 : decode cX9_explainAmongTakers 25 = .ok (.invokevirtual 289, 3) := by decide +kernel
theorem dX9_explainAmongTakers_28 : decode cX9_explainAmongTakers 28 = .ok (.iand, 1) := by decide +kernel
theorem dX9_explainAmongTakers_29 : decode cX9_explainAmongTakers 29 = .ok (.istore 5, 2) := by decide +kernel
theorem dX9_explainAmongTakers_31 : decode cX9_explainAmongTakers 31 = .ok (.iload 5, 2) := by decide +kernel
theorem dX9_explainAmongTakers_33 : decode cX9_explainAmongTakers 33 = .ok (.ifCond .eq 19, 3) := by decide +kernel
theorem dX9_explainAmongTakers_36 : decode cX9_explainAmongTakers 36 = .ok (.aload_n 0, 1) := by decide +kernel
theorem dX9_explainAmongTakers_37 : decode cX9_explainAmongTakers 37 = .ok (.aload_n 2, 1) := by decide +kernel
theorem dX9_explainAmongTakers_38 : decode cX9_explainAmongTakers 38 = .ok (.iload 5, 2) := by decide +kernel
theorem dX9_explainAmongTakers_40 : decode cX9_explainAmongTakers 40 = .ok (.iconst 0, 1) := by decide +kernel
theorem dX9_explainAmongTakers_41 : decode cX9_explainAmongTakers 41 = .ok (.invokestatic 236, 3) := by decide +kernel
theorem dX9_explainAmongTakers_44 : decode cX9_explainAmongTakers 44 = .ok (.invokevirtual 198, 3) := by decide +kernel
theorem dX9_explainAmongTakers_47 : decode cX9_explainAmongTakers 47 = .ok (.putfield 70, 3) := by decide +kernel
theorem dX9_explainAmongTakers_50 : decode cX9_explainAmongTakers 50 = .ok (.iconst 4, 1) := by decide +kernel
theorem dX9_explainAmongTakers_51 : decode cX9_explainAmongTakers 51 = .ok (.ireturn, 1) := by decide +kernel
theorem dX9_explainAmongTakers_52 : decode cX9_explainAmongTakers 52 = .ok (.iload 4, 2) := by decide +kernel
theorem dX9_explainAmongTakers_54 : decode cX9_explainAmongTakers 54 = .ok (.iconst 1, 1) := by decide +kernel
theorem dX9_explainAmongTakers_55 : decode cX9_explainAmongTakers 55 = .ok (.iload_n 3, 1) := by decide +kernel
theorem dX9_explainAmongTakers_56 : decode cX9_explainAmongTakers 56 = .ok (.ishl, 1) := by decide +kernel
theorem dX9_explainAmongTakers_57 : decode cX9_explainAmongTakers 57 = .ok (.iconst (-1), 1) := by decide +kernel
theorem dX9_explainAmongTakers_58 : decode cX9_explainAmongTakers 58 = .ok (.ixor, 1) := by decide +kernel
theorem dX9_explainAmongTakers_59 : decode cX9_explainAmongTakers 59 = .ok (.iand, 1) := by decide +kernel
theorem dX9_explainAmongTakers_60 : decode cX9_explainAmongTakers 60 = .ok (.aload_n 2, 1) := by decide +kernel
theorem dX9_explainAmongTakers_61 : decode cX9_explainAmongTakers 61 = .ok (.iload_n 3, 1) := by decide +kernel
theorem dX9_explainAmongTakers_62 : decode cX9_explainAmongTakers 62 = .ok (.invokevirtual 292, 3) := by decide +kernel
theorem dX9_explainAmongTakers_65 : decode cX9_explainAmongTakers 65 = .ok (.iconst (-1), 1) := by decide +kernel
theorem dX9_explainAmongTakers_66 : decode cX9_explainAmongTakers 66 = .ok (.ixor, 1) := by decide +kernel
theorem dX9_explainAmongTakers_67 : decode cX9_explainAmongTakers 67 = .ok (.iand, 1) := by decide +kernel
theorem dX9_explainAmongTakers_68 : decode cX9_explainAmongTakers 68 = .ok (.istore 6, 2) := by decide +kernel
theorem dX9_explainAmongTakers_70 : decode cX9_explainAmongTakers 70 = .ok (.iload 6, 2) := by decide +kernel
theorem dX9_explainAmongTakers_72 : decode cX9_explainAmongTakers 72 = .ok (.ifCond .eq 19, 3) := by decide +kernel
theorem dX9_explainAmongTakers_75 : decode cX9_explainAmongTakers 75 = .ok (.aload_n 0, 1) := by decide +kernel
theorem dX9_explainAmongTakers_76 : decode cX9_explainAmongTakers 76 = .ok (.aload_n 2, 1) := by decide +kernel
theorem dX9_explainAmongTakers_77 : decode cX9_explainAmongTakers 77 = .ok (.iload 6, 2) := by decide +kernel
theorem dX9_explainAmongTakers_79 : decode cX9_explainAmongTakers 79 = .ok (.iconst 0, 1) := by decide +kernel
theorem dX9_explainAmongTakers_80 : decode cX9_explainAmongTakers 80 = .ok (.invokestatic 236, 3) := by decide +kernel
theorem dX9_explainAmongTakers_83 : decode cX9_explainAmongTakers 83 = .ok (.invokevirtual 198, 3) := by decide +kernel
theorem dX9_explainAmongTakers_86 : decode cX9_explainAmongTakers 86 = .ok (.putfield 70, 3) := by decide +kernel
theorem dX9_explainAmongTakers_89 : decode cX9_explainAmongTakers 89 = .ok (.iconst 5, 1) := by decide +kernel
theorem dX9_explainAmongTakers_90 : decode cX9_explainAmongTakers 90 = .ok (.ireturn, 1) := by decide +kernel
theorem dX9_explainAmongTakers_91 : decode cX9_explainAmongTakers 91 = .ok (.iconst 0, 1) := by decide +kernel
theorem dX9_explainAmongTakers_92 : decode cX9_explainAmongTakers 92 = .ok (.ireturn, 1) := by decide +kernel
theorem dX9_carryOut_0 : decode cX9_carryOut 0 = .ok (.aload_n 0, 1) := by decide +kernel
theorem dX9_carryOut_1 : decode cX9_carryOut 1 = .ok (.aload_n 1, 1) := by decide +kernel
theorem dX9_carryOut_2 : decode cX9_carryOut 2 = .ok (.invokevirtual 295, 3) := by decide +kernel
theorem dX9_carryOut_5 : decode cX9_carryOut 5 = .ok (.ifCond .eq 13, 3) := by decide +kernel
theorem dX9_carryOut_8 : decode cX9_carryOut 8 = .ok (.aload_n 0, 1) := by decide +kernel
theorem dX9_carryOut_9 : decode cX9_carryOut 9 = .ok (.getfield 52, 3) := by decide +kernel
theorem dX9_carryOut_12 : decode cX9_carryOut 12 = .ok (.iconst 5, 1) := by decide +kernel
theorem dX9_carryOut_13 : decode cX9_carryOut 13 = .ok (.putfield 216, 3) := by decide +kernel
theorem dX9_carryOut_16 : decode cX9_carryOut 16 = .ok (.aconst_null, 1) := by decide +kernel
theorem dX9_carryOut_17 : decode cX9_carryOut 17 = .ok (.areturn, 1) := by decide +kernel
theorem dX9_carryOut_18 : decode cX9_carryOut 18 = .ok (.aload_n 1, 1) := by decide +kernel
theorem dX9_carryOut_19 : decode cX9_carryOut 19 = .ok (.aload_n 0, 1) := by decide +kernel
theorem dX9_carryOut_20 : decode cX9_carryOut 20 = .ok (.getfield 45, 3) := by decide +kernel
theorem dX9_carryOut_23 : decode cX9_carryOut 23 = .ok (.invokevirtual 298, 3) := by decide +kernel
theorem dX9_carryOut_26 : decode cX9_carryOut 26 = .ok (.aload_n 1, 1) := by decide +kernel
theorem dX9_carryOut_27 : decode cX9_carryOut 27 = .ok (.aload_n 0, 1) := by decide +kernel
theorem dX9_carryOut_28 : decode cX9_carryOut 28 = .ok (.getfield 45, 3) := by decide +kernel
theorem dX9_carryOut_31 : decode cX9_carryOut 31 = .ok (.invokevirtual 232, 3) := by decide +kernel
theorem dX9_carryOut_34 : decode cX9_carryOut 34 = .ok (.istore_n 2, 1) := by decide +kernel
theorem dX9_carryOut_35 : decode cX9_carryOut 35 = .ok (.iload_n 2, 1) := by decide +kernel
theorem dX9_carryOut_36 : decode cX9_carryOut 36 = .ok (.ifCond .ne 13, 3) := by decide +kernel
theorem dX9_carryOut_39 : decode cX9_carryOut 39 = .ok (.aload_n 0, 1) := by decide +kernel
theorem dX9_carryOut_40 : decode cX9_carryOut 40 = .ok (.getfield 52, 3) := by decide +kernel
theorem dX9_carryOut_43 : decode cX9_carryOut 43 = .ok (.iconst 1, 1) := by decide +kernel
theorem dX9_carryOut_44 : decode cX9_carryOut 44 = .ok (.putfield 216, 3) := by decide +kernel
theorem dX9_carryOut_47 : decode cX9_carryOut 47 = .ok (.aconst_null, 1) := by decide +kernel
theorem dX9_carryOut_48 : decode cX9_carryOut 48 = .ok (.areturn, 1) := by decide +kernel
theorem dX9_carryOut_49 : decode cX9_carryOut 49 = .ok (.aload_n 0, 1) := by decide +kernel
theorem dX9_carryOut_50 : decode cX9_carryOut 50 = .ok (.aload_n 1, 1) := by decide +kernel
theorem dX9_carryOut_51 : decode cX9_carryOut 51 = .ok (.iload_n 2, 1) := by decide +kernel
theorem dX9_carryOut_52 : decode cX9_carryOut 52 = .ok (.invokevirtual 302, 3) := by decide +kernel
theorem dX9_carryOut_55 : decode cX9_carryOut 55 = .ok (.areturn, 1) := by decide +kernel
theorem dX9_isBarred_0 : decode cX9_isBarred 0 = .ok (.aload_n 0, 1) := by decide +kernel
theorem dX9_isBarred_1 : decode cX9_isBarred 1 = .ok (.getfield 45, 3) := by decide +kernel
theorem dX9_isBarred_4 : decode cX9_isBarred 4 = .ok (.invokevirtual 306, 3) := by decide +kernel
theorem dX9_isBarred_7 : decode cX9_isBarred 7 = .ok (.lstore_n 2, 1) := by decide +kernel
theorem dX9_isBarred_8 : decode cX9_isBarred 8 = .ok (.aload_n 1, 1) := by decide +kernel
theorem dX9_isBarred_9 : decode cX9_isBarred 9 = .ok (.aload_n 0, 1) := by decide +kernel
theorem dX9_isBarred_10 : decode cX9_isBarred 10 = .ok (.getfield 45, 3) := by decide +kernel
theorem dX9_isBarred_13 : decode cX9_isBarred 13 = .ok (.invokevirtual 310, 3) := by decide +kernel
theorem dX9_isBarred_16 : decode cX9_isBarred 16 = .ok (.istore 4, 2) := by decide +kernel
theorem dX9_isBarred_18 : decode cX9_isBarred 18 = .ok (.iconst 0, 1) := by decide +kernel
theorem dX9_isBarred_19 : decode cX9_isBarred 19 = .ok (.istore 5, 2) := by decide +kernel
theorem dX9_isBarred_21 : decode cX9_isBarred 21 = .ok (.iload 5, 2) := by decide +kernel
theorem dX9_isBarred_23 : decode cX9_isBarred 23 = .ok (.aload_n 1, 1) := by decide +kernel
theorem dX9_isBarred_24 : decode cX9_isBarred 24 = .ok (.getfield 192, 3) := by decide +kernel
theorem dX9_isBarred_27 : decode cX9_isBarred 27 = .ok (.if_icmp .ge 75, 3) := by decide +kernel
theorem dX9_isBarred_30 : decode cX9_isBarred 30 = .ok (.aload_n 1, 1) := by decide +kernel
theorem dX9_isBarred_31 : decode cX9_isBarred 31 = .ok (.aload_n 1, 1) := by decide +kernel
theorem dX9_isBarred_32 : decode cX9_isBarred 32 = .ok (.getfield 195, 3) := by decide +kernel
theorem dX9_isBarred_35 : decode cX9_isBarred 35 = .ok (.iload 5, 2) := by decide +kernel
theorem dX9_isBarred_37 : decode cX9_isBarred 37 = .ok (.iaload, 1) := by decide +kernel
theorem dX9_isBarred_38 : decode cX9_isBarred 38 = .ok (.invokevirtual 313, 3) := by decide +kernel
theorem dX9_isBarred_41 : decode cX9_isBarred 41 = .ok (.astore 6, 2) := by decide +kernel
theorem dX9_isBarred_43 : decode cX9_isBarred 43 = .ok (.aload 6, 2) := by decide +kernel
theorem dX9_isBarred_45 : decode cX9_isBarred 45 = .ok (.ifnull 51, 3) := by decide +kernel
theorem dX9_isBarred_48 : decode cX9_isBarred 48 = .ok (.aload 6, 2) := by decide +kernel
theorem dX9_isBarred_50 : decode cX9_isBarred 50 = .ok (.getfield 182, 3) := by decide +kernel
theorem dX9_isBarred_53 : decode cX9_isBarred 53 = .ok (.ifCond .eq 43, 3) := by decide +kernel
theorem dX9_isBarred_56 : decode cX9_isBarred 56 = .ok (.iload 4, 2) := by decide +kernel
theorem dX9_isBarred_58 : decode cX9_isBarred 58 = .ok (.iconst 1, 1) := by decide +kernel
theorem dX9_isBarred_59 : decode cX9_isBarred 59 = .ok (.aload_n 1, 1) := by decide +kernel
theorem dX9_isBarred_60 : decode cX9_isBarred 60 = .ok (.getfield 195, 3) := by decide +kernel
theorem dX9_isBarred_63 : decode cX9_isBarred 63 = .ok (.iload 5, 2) := by decide +kernel
theorem dX9_isBarred_65 : decode cX9_isBarred 65 = .ok (.iaload, 1) := by decide +kernel
theorem dX9_isBarred_66 : decode cX9_isBarred 66 = .ok (.ishl, 1) := by decide +kernel
theorem dX9_isBarred_67 : decode cX9_isBarred 67 = .ok (.iand, 1) := by decide +kernel
theorem dX9_isBarred_68 : decode cX9_isBarred 68 = .ok (.ifCond .eq 28, 3) := by decide +kernel
theorem dX9_isBarred_71 : decode cX9_isBarred 71 = .ok (.aload_n 0, 1) := by decide +kernel
theorem dX9_isBarred_72 : decode cX9_isBarred 72 = .ok (.getfield 52, 3) := by decide +kernel
theorem dX9_isBarred_75 : decode cX9_isBarred 75 = .ok (.aload 6, 2) := by decide +kernel
theorem dX9_isBarred_77 : decode cX9_isBarred 77 = .ok (.getfield 316, 3) := by decide +kernel
theorem dX9_isBarred_80 : decode cX9_isBarred 80 = .ok (.invokevirtual 317, 3) := by decide +kernel
theorem dX9_isBarred_83 : decode cX9_isBarred 83 = .ok (.lload_n 2, 1) := by decide +kernel
theorem dX9_isBarred_84 : decode cX9_isBarred 84 = .ok (.aload 6, 2) := by decide +kernel
theorem dX9_isBarred_86 : decode cX9_isBarred 86 = .ok (.getfield 179, 3) := by decide +kernel
theorem dX9_isBarred_89 : decode cX9_isBarred 89 = .ok (.i2l, 1) := by decide +kernel
theorem dX9_isBarred_90 : decode cX9_isBarred 90 = .ok (.lcmp, 1) := by decide +kernel
theorem dX9_isBarred_91 : decode cX9_isBarred 91 = .ok (.ifCond .ge 5, 3) := by decide +kernel
theorem dX9_isBarred_94 : decode cX9_isBarred 94 = .ok (.iconst 1, 1) := by decide +kernel
theorem dX9_isBarred_95 : decode cX9_isBarred 95 = .ok (.ireturn, 1) := by decide +kernel
theorem dX9_isBarred_96 : decode cX9_isBarred 96 = .ok (.iinc 5 1, 3) := by decide +kernel
theorem dX9_isBarred_99 : decode cX9_isBarred 99 = .ok (.goto (-78), 3) := by decide +kernel
theorem dX9_isBarred_102 : decode cX9_isBarred 102 = .ok (.iconst 0, 1) := by decide +kernel
theorem dX9_isBarred_103 : decode cX9_isBarred 103 = .ok (.ireturn, 1) := by decide +kernel
theorem dX9_runChosen_0 : decode cX9_runChosen 0 = .ok (.iload_n 2, 1) := by decide +kernel
theorem dX9_runChosen_1 : decode cX9_runChosen 1 = .ok (.istore_n 3, 1) := by decide +kernel
theorem dX9_runChosen_2 : decode cX9_runChosen 2 = .ok (.iconst 0, 1) := by decide +kernel
theorem dX9_runChosen_3 : decode cX9_runChosen 3 = .ok (.istore 4, 2) := by decide +kernel
theorem dX9_runChosen_5 : decode cX9_runChosen 5 = .ok (.iload 4, 2) := by decide +kernel
theorem dX9_runChosen_7 : decode cX9_runChosen 7 = .ok (.bipush 8, 2) := by decide +kernel
theorem dX9_runChosen_9 : decode cX9_runChosen 9 = .ok (.if_icmp .ge 101, 3) := by decide +kernel
theorem dX9_runChosen_12 : decode cX9_runChosen 12 = .ok (.aload_n 1, 1) := by decide +kernel
theorem dX9_runChosen_13 : decode cX9_runChosen 13 = .ok (.iload_n 3, 1) := by decide +kernel
theorem dX9_runChosen_14 : decode cX9_runChosen 14 = .ok (.invokevirtual 239, 3) := by decide +kernel
theorem dX9_runChosen_17 : decode cX9_runChosen 17 = .ok (.istore 5, 2) := by decide +kernel
theorem dX9_runChosen_19 : decode cX9_runChosen 19 = .ok (.aload_n 1, 1) := by decide +kernel
theorem dX9_runChosen_20 : decode cX9_runChosen 20 = .ok (.iload 5, 2) := by decide +kernel
theorem dX9_runChosen_22 : decode cX9_runChosen 22 = .ok (.invokevirtual 313, 3) := by decide +kernel
theorem dX9_runChosen_25 : decode cX9_runChosen 25 = .ok (.astore 6, 2) := by decide +kernel
theorem dX9_runChosen_27 : decode cX9_runChosen 27 = .ok (.aload 6, 2) := by decide +kernel
theorem dX9_runChosen_29 : decode cX9_runChosen 29 = .ok (.ifnonnull 13, 3) := by decide +kernel
theorem dX9_runChosen_32 : decode cX9_runChosen 32 = .ok (.aload_n 0, 1) := by decide +kernel
theorem dX9_runChosen_33 : decode cX9_runChosen 33 = .ok (.getfield 52, 3) := by decide +kernel
theorem dX9_runChosen_36 : decode cX9_runChosen 36 = .ok (.iconst 2, 1) := by decide +kernel
theorem dX9_runChosen_37 : decode cX9_runChosen 37 = .ok (.putfield 216, 3) := by decide +kernel
theorem dX9_runChosen_40 : decode cX9_runChosen 40 = .ok (.aconst_null, 1) := by decide +kernel
theorem dX9_runChosen_41 : decode cX9_runChosen 41 = .ok (.areturn, 1) := by decide +kernel
theorem dX9_runChosen_42 : decode cX9_runChosen 42 = .ok (.aload_n 0, 1) := by decide +kernel
theorem dX9_runChosen_43 : decode cX9_runChosen 43 = .ok (.getfield 52, 3) := by decide +kernel
theorem dX9_runChosen_46 : decode cX9_runChosen 46 = .ok (.aload 6, 2) := by decide +kernel
theorem dX9_runChosen_48 : decode cX9_runChosen 48 = .ok (.getfield 316, 3) := by decide +kernel
theorem dX9_runChosen_51 : decode cX9_runChosen 51 = .ok (.invokevirtual 317, 3) := by decide +kernel
theorem dX9_runChosen_54 : decode cX9_runChosen 54 = .ok (.aload 6, 2) := by decide +kernel
theorem dX9_runChosen_56 : decode cX9_runChosen 56 = .ok (.getfield 176, 3) := by decide +kernel
theorem dX9_runChosen_59 : decode cX9_runChosen 59 = .ok (.iconst 2, 1) := by decide +kernel
theorem dX9_runChosen_60 : decode cX9_runChosen 60 = .ok (.if_icmp .eq 10, 3) := by decide +kernel
theorem dX9_runChosen_63 : decode cX9_runChosen 63 = .ok (.aload_n 0, 1) := by decide +kernel
theorem dX9_runChosen_64 : decode cX9_runChosen 64 = .ok (.aload 6, 2) := by decide +kernel
theorem dX9_runChosen_66 : decode cX9_runChosen 66 = .ok (.invokevirtual 321, 3) := by decide +kernel
theorem dX9_runChosen_69 : decode cX9_runChosen 69 = .ok (.areturn, 1) := by decide +kernel
theorem dX9_runChosen_70 : decode cX9_runChosen 70 = .ok (.aload_n 0, 1) := by decide +kernel
theorem dX9_runChosen_71 : decode cX9_runChosen 71 = .ok (.getfield 52, 3) := by decide +kernel
theorem dX9_runChosen_74 : decode cX9_runChosen 74 = .ok (.dup, 1) := by decide +kernel
theorem dX9_runChosen_75 : decode cX9_runChosen 75 = .ok (.getfield 219, 3) := by decide +kernel
theorem dX9_runChosen_78 : decode cX9_runChosen 78 = .ok (.aload 6, 2) := by decide +kernel
theorem dX9_runChosen_80 : decode cX9_runChosen 80 = .ok (.getfield 179, 3) := by decide +kernel
theorem dX9_runChosen_83 : decode cX9_runChosen 83 = .ok (.i2l, 1) := by decide +kernel
theorem dX9_runChosen_84 : decode cX9_runChosen 84 = .ok (.ladd, 1) := by decide +kernel
theorem dX9_runChosen_85 : decode cX9_runChosen 85 = .ok (.putfield 219, 3) := by decide +kernel
theorem dX9_runChosen_88 : decode cX9_runChosen 88 = .ok (.iload_n 2, 1) := by decide +kernel
theorem dX9_runChosen_89 : decode cX9_runChosen 89 = .ok (.aload_n 1, 1) := by decide +kernel
theorem dX9_runChosen_90 : decode cX9_runChosen 90 = .ok (.iload 5, 2) := by decide +kernel
theorem dX9_runChosen_92 : decode cX9_runChosen 92 = .ok (.invokevirtual 292, 3) := by decide +kernel
theorem dX9_runChosen_95 : decode cX9_runChosen 95 = .ok (.iand, 1) := by decide +kernel
theorem dX9_runChosen_96 : decode cX9_runChosen 96 = .ok (.istore_n 3, 1) := by decide +kernel
theorem dX9_runChosen_97 : decode cX9_runChosen 97 = .ok (.iload_n 3, 1) := by decide +kernel
theorem dX9_runChosen_98 : decode cX9_runChosen 98 = .ok (.ifCond .ne 6, 3) := by decide +kernel
theorem dX9_runChosen_101 : decode cX9_runChosen 101 = .ok (.goto 9, 3) := by decide +kernel
theorem dX9_runChosen_104 : decode cX9_runChosen 104 = .ok (.iinc 4 1, 3) := by decide +kernel
theorem dX9_runChosen_107 : decode cX9_runChosen 107 = .ok (.goto (-102), 3) := by decide +kernel
theorem dX9_runChosen_110 : decode cX9_runChosen 110 = .ok (.aload_n 0, 1) := by decide +kernel
theorem dX9_runChosen_111 : decode cX9_runChosen 111 = .ok (.getfield 52, 3) := by decide +kernel
theorem dX9_runChosen_114 : decode cX9_runChosen 114 = .ok (.iconst 0, 1) := by decide +kernel
theorem dX9_runChosen_115 : decode cX9_runChosen 115 = .ok (.putfield 216, 3) := by decide +kernel
theorem dX9_runChosen_118 : decode cX9_runChosen 118 = .ok (.aconst_null, 1) := by decide +kernel
theorem dX9_runChosen_119 : decode cX9_runChosen 119 = .ok (.areturn, 1) := by decide +kernel
theorem dX9_act_0 : decode cX9_act 0 = .ok (.aload_n 1, 1) := by decide +kernel
theorem dX9_act_1 : decode cX9_act 1 = .ok (.getfield 176, 3) := by decide +kernel
theorem dX9_act_4 : decode cX9_act 4 = .ok (.tableswitch 132 0 6 #[44, 58, 132, 80, 93, 116, 126], 44) := by decide +kernel
theorem dX9_act_48 : decode cX9_act 48 = .ok (.aload_n 0, 1) := by decide +kernel
theorem dX9_act_49 : decode cX9_act 49 = .ok (.getfield 52, 3) := by decide +kernel
theorem dX9_act_52 : decode cX9_act 52 = .ok (.aload_n 1, 1) := by decide +kernel
theorem dX9_act_53 : decode cX9_act 53 = .ok (.getfield 179, 3) := by decide +kernel
theorem dX9_act_56 : decode cX9_act 56 = .ok (.i2l, 1) := by decide +kernel
theorem dX9_act_57 : decode cX9_act 57 = .ok (.invokevirtual 325, 3) := by decide +kernel
theorem dX9_act_60 : decode cX9_act 60 = .ok (.aconst_null, 1) := by decide +kernel
theorem dX9_act_61 : decode cX9_act 61 = .ok (.areturn, 1) := by decide +kernel
theorem dX9_act_62 : decode cX9_act 62 = .ok (.aload_n 0, 1) := by decide +kernel
theorem dX9_act_63 : decode cX9_act 63 = .ok (.getfield 52, 3) := by decide +kernel
theorem dX9_act_66 : decode cX9_act 66 = .ok (.aload_n 0, 1) := by decide +kernel
theorem dX9_act_67 : decode cX9_act 67 = .ok (.getfield 45, 3) := by decide +kernel
theorem dX9_act_70 : decode cX9_act 70 = .ok (.invokevirtual 306, 3) := by decide +kernel
theorem dX9_act_73 : decode cX9_act 73 = .ok (.aload_n 1, 1) := by decide +kernel
theorem dX9_act_74 : decode cX9_act 74 = .ok (.getfield 179, 3) := by decide +kernel
theorem dX9_act_77 : decode cX9_act 77 = .ok (.i2l, 1) := by decide +kernel
theorem dX9_act_78 : decode cX9_act 78 = .ok (.ladd, 1) := by decide +kernel
theorem dX9_act_79 : decode cX9_act 79 = .ok (.invokevirtual 325, 3) := by decide +kernel
theorem dX9_act_82 : decode cX9_act 82 = .ok (.aconst_null, 1) := by decide +kernel
theorem dX9_act_83 : decode cX9_act 83 = .ok (.areturn, 1) := by decide +kernel
theorem dX9_act_84 : decode cX9_act 84 = .ok (.aload_n 0, 1) := by decide +kernel
theorem dX9_act_85 : decode cX9_act 85 = .ok (.getfield 52, 3) := by decide +kernel
theorem dX9_act_88 : decode cX9_act 88 = .ok (.aload_n 1, 1) := by decide +kernel
theorem dX9_act_89 : decode cX9_act 89 = .ok (.getfield 179, 3) := by decide +kernel
theorem dX9_act_92 : decode cX9_act 92 = .ok (.invokevirtual 329, 3) := by decide +kernel
theorem dX9_act_95 : decode cX9_act 95 = .ok (.aconst_null, 1) := by decide +kernel
theorem dX9_act_96 : decode cX9_act 96 = .ok (.areturn, 1) := by decide +kernel
theorem dX9_act_97 : decode cX9_act 97 = .ok (.aload_n 0, 1) := by decide +kernel
theorem dX9_act_98 : decode cX9_act 98 = .ok (.getfield 52, 3) := by decide +kernel
theorem dX9_act_101 : decode cX9_act 101 = .ok (.aload_n 0, 1) := by decide +kernel
theorem dX9_act_102 : decode cX9_act 102 = .ok (.aload_n 1, 1) := by decide +kernel
theorem dX9_act_103 : decode cX9_act 103 = .ok (.getfield 179, 3) := by decide +kernel
theorem dX9_act_106 : decode cX9_act 106 = .ok (.bipush 8, 2) := by decide +kernel
theorem dX9_act_108 : decode cX9_act 108 = .ok (.invokestatic 332, 3) := by decide +kernel
theorem dX9_act_111 : decode cX9_act 111 = .ok (.invokevirtual 337, 3) := by decide +kernel
theorem dX9_act_114 : decode cX9_act 114 = .ok (.i2l, 1) := by decide +kernel
theorem dX9_act_115 : decode cX9_act 115 = .ok (.invokevirtual 325, 3) := by decide +kernel
theorem dX9_act_118 : decode cX9_act 118 = .ok (.aconst_null, 1) := by decide +kernel
theorem dX9_act_119 : decode cX9_act 119 = .ok (.areturn, 1) := by decide +kernel
theorem dX9_act_120 : decode cX9_act 120 = .ok (.aload_n 0, 1) := by decide +kernel
theorem dX9_act_121 : decode cX9_act 121 = .ok (.aload_n 1, 1) := by decide +kernel
theorem dX9_act_122 : decode cX9_act 122 = .ok (.getfield 179, 3) := by decide +kernel
theorem dX9_act_125 : decode cX9_act 125 = .ok (.invokevirtual 340, 3) := by decide +kernel
theorem dX9_act_128 : decode cX9_act 128 = .ok (.aconst_null, 1) := by decide +kernel
theorem dX9_act_129 : decode cX9_act 129 = .ok (.areturn, 1) := by decide +kernel
theorem dX9_act_130 : decode cX9_act 130 = .ok (.aload_n 0, 1) := by decide +kernel
theorem dX9_act_131 : decode cX9_act 131 = .ok (.aload_n 1, 1) := by decide +kernel
theorem dX9_act_132 : decode cX9_act 132 = .ok (.invokevirtual 343, 3) := by decide +kernel
theorem dX9_act_135 : decode cX9_act 135 = .ok (.areturn, 1) := by decide +kernel
theorem dX9_act_136 : decode cX9_act 136 = .ok (.aload_n 0, 1) := by decide +kernel
theorem dX9_act_137 : decode cX9_act 137 = .ok (.getfield 45, 3) := by decide +kernel
theorem dX9_act_140 : decode cX9_act 140 = .ok (.invokevirtual 346, 3) := by decide +kernel
theorem dX9_act_143 : decode cX9_act 143 = .ok (.aload_n 0, 1) := by decide +kernel
theorem dX9_act_144 : decode cX9_act 144 = .ok (.aload_n 1, 1) := by decide +kernel
theorem dX9_act_145 : decode cX9_act 145 = .ok (.invokevirtual 343, 3) := by decide +kernel
theorem dX9_act_148 : decode cX9_act 148 = .ok (.areturn, 1) := by decide +kernel
theorem dX9_countUp_0 : decode cX9_countUp 0 = .ok (.aload_n 0, 1) := by decide +kernel
theorem dX9_countUp_1 : decode cX9_countUp 1 = .ok (.getfield 39, 3) := by decide +kernel
theorem dX9_countUp_4 : decode cX9_countUp 4 = .ok (.iload_n 1, 1) := by decide +kernel
theorem dX9_countUp_5 : decode cX9_countUp 5 = .ok (.dup2, 1) := by decide +kernel
theorem dX9_countUp_6 : decode cX9_countUp 6 = .ok (.iaload, 1) := by decide +kernel
theorem dX9_countUp_7 : decode cX9_countUp 7 = .ok (.iconst 1, 1) := by decide +kernel
theorem dX9_countUp_8 : decode cX9_countUp 8 = .ok (.iadd, 1) := by decide +kernel
theorem dX9_countUp_9 : decode cX9_countUp 9 = .ok (.iastore, 1) := by decide +kernel
theorem dX9_countUp_10 : decode cX9_countUp 10 = .ok (.aload_n 0, 1) := by decide +kernel
theorem dX9_countUp_11 : decode cX9_countUp 11 = .ok (.getfield 39, 3) := by decide +kernel
theorem dX9_countUp_14 : decode cX9_countUp 14 = .ok (.iload_n 1, 1) := by decide +kernel
theorem dX9_countUp_15 : decode cX9_countUp 15 = .ok (.iaload, 1) := by decide +kernel
theorem dX9_countUp_16 : decode cX9_countUp 16 = .ok (.ireturn, 1) := by decide +kernel
theorem dX9_bringSample_0 : decode cX9_bringSample 0 = .ok (.aload_n 0, 1) := by decide +kernel
theorem dX9_bringSample_1 : decode cX9_bringSample 1 = .ok (.getfield 19, 3) := by decide +kernel
theorem dX9_bringSample_4 : decode cX9_bringSample 4 = .ok (.aload_n 0, 1) := by decide +kernel
theorem dX9_bringSample_5 : decode cX9_bringSample 5 = .ok (.getfield 45, 3) := by decide +kernel
theorem dX9_bringSample_8 : decode cX9_bringSample 8 = .ok (.getfield 283, 3) := by decide +kernel
theorem dX9_bringSample_11 : decode cX9_bringSample 11 = .ok (.iconst 0, 1) := by decide +kernel
theorem dX9_bringSample_12 : decode cX9_bringSample 12 = .ok (.iaload, 1) := by decide +kernel
theorem dX9_bringSample_13 : decode cX9_bringSample 13 = .ok (.aload_n 0, 1) := by decide +kernel
theorem dX9_bringSample_14 : decode cX9_bringSample 14 = .ok (.getfield 45, 3) := by decide +kernel
theorem dX9_bringSample_17 : decode cX9_bringSample 17 = .ok (.getfield 284, 3) := by decide +kernel
theorem dX9_bringSample_20 : decode cX9_bringSample 20 = .ok (.iconst 0, 1) := by decide +kernel
theorem dX9_bringSample_21 : decode cX9_bringSample 21 = .ok (.iaload, 1) := by decide +kernel
theorem dX9_bringSample_22 : decode cX9_bringSample 22 = .ok (.iload_n 1, 1) := by decide +kernel
theorem dX9_bringSample_23 : decode cX9_bringSample 23 = .ok (.iadd, 1) := by decide +kernel
theorem dX9_bringSample_24 : decode cX9_bringSample 24 = .ok (.invokevirtual 111, 3) := by decide +kernel
theorem dX9_bringSample_27 : decode cX9_bringSample 27 = .ok (.istore_n 2, 1) := by decide +kernel
theorem dX9_bringSample_28 : decode cX9_bringSample 28 = .ok (.iload_n 2, 1) := by decide +kernel
theorem dX9_bringSample_29 : decode cX9_bringSample 29 = .ok (.iconst (-1), 1) := by decide +kernel
theorem dX9_bringSample_30 : decode cX9_bringSample 30 = .ok (.if_icmp .ne 14, 3) := by decide +kernel
theorem dX9_bringSample_33 : decode cX9_bringSample 33 = .ok (.aload_n 0, 1) := by decide +kernel
theorem dX9_bringSample_34 : decode cX9_bringSample 34 = .ok (.getfield 52, 3) := by decide +kernel
theorem dX9_bringSample_37 : decode cX9_bringSample 37 = .ok (.iconst (-1), 1) := by decide +kernel
theorem dX9_bringSample_38 : decode cX9_bringSample 38 = .ok (.invokevirtual 329, 3) := by decide +kernel
theorem dX9_bringSample_41 : decode cX9_bringSample 41 = .ok (.goto 12, 3) := by decide +kernel
theorem dX9_bringSample_44 : decode cX9_bringSample 44 = .ok (.aload_n 0, 1) := by decide +kernel
theorem dX9_bringSample_45 : decode cX9_bringSample 45 = .ok (.getfield 52, 3) := by decide +kernel
theorem dX9_bringSample_48 : decode cX9_bringSample 48 = .ok (.iload_n 2, 1) := by decide +kernel
theorem dX9_bringSample_49 : decode cX9_bringSample 49 = .ok (.i2l, 1) := by decide +kernel
theorem dX9_bringSample_50 : decode cX9_bringSample 50 = .ok (.invokevirtual 325, 3) := by decide +kernel
theorem dX9_bringSample_53 : decode cX9_bringSample 53 = .ok (.return_, 1) := by decide +kernel
theorem dX9_calledWithin_0 : decode cX9_calledWithin 0 = .ok (.aload_n 0, 1) := by decide +kernel
theorem dX9_calledWithin_1 : decode cX9_calledWithin 1 = .ok (.aload_n 1, 1) := by decide +kernel
theorem dX9_calledWithin_2 : decode cX9_calledWithin 2 = .ok (.getfield 179, 3) := by decide +kernel
theorem dX9_calledWithin_5 : decode cX9_calledWithin 5 = .ok (.iconst 4, 1) := by decide +kernel
theorem dX9_calledWithin_6 : decode cX9_calledWithin 6 = .ok (.invokestatic 332, 3) := by decide +kernel
theorem dX9_calledWithin_9 : decode cX9_calledWithin 9 = .ok (.invokevirtual 129, 3) := by decide +kernel
theorem dX9_calledWithin_12 : decode cX9_calledWithin 12 = .ok (.astore_n 2, 1) := by decide +kernel
theorem dX9_calledWithin_13 : decode cX9_calledWithin 13 = .ok (.aload_n 2, 1) := by decide +kernel
theorem dX9_calledWithin_14 : decode cX9_calledWithin 14 = .ok (.ifnull 17, 3) := by decide +kernel
theorem dX9_calledWithin_17 : decode cX9_calledWithin 17 = .ok (.aload_n 2, 1) := by decide +kernel
theorem dX9_calledWithin_18 : decode cX9_calledWithin 18 = .ok (.getfield 252, 3) := by decide +kernel
theorem dX9_calledWithin_21 : decode cX9_calledWithin 21 = .ok (.aload_n 0, 1) := by decide +kernel
theorem dX9_calledWithin_22 : decode cX9_calledWithin 22 = .ok (.getfield 45, 3) := by decide +kernel
theorem dX9_calledWithin_25 : decode cX9_calledWithin 25 = .ok (.getfield 285, 3) := by decide +kernel
theorem dX9_calledWithin_28 : decode cX9_calledWithin 28 = .ok (.if_icmp .eq 14, 3) := by decide +kernel
theorem dX9_calledWithin_31 : decode cX9_calledWithin 31 = .ok (.aload_n 0, 1) := by decide +kernel
theorem dX9_calledWithin_32 : decode cX9_calledWithin 32 = .ok (.getfield 52, 3) := by decide +kernel
theorem dX9_calledWithin_35 : decode cX9_calledWithin 35 = .ok (.bipush (-2), 2) := by decide +kernel
theorem dX9_calledWithin_37 : decode cX9_calledWithin 37 = .ok (.invokevirtual 329, 3) := by decide +kernel
theorem dX9_calledWithin_40 : decode cX9_calledWithin 40 = .ok (.aconst_null, 1) := by decide +kernel
theorem dX9_calledWithin_41 : decode cX9_calledWithin 41 = .ok (.areturn, 1) := by decide +kernel
theorem dX9_calledWithin_42 : decode cX9_calledWithin 42 = .ok (.aload_n 0, 1) := by decide +kernel
theorem dX9_calledWithin_43 : decode cX9_calledWithin 43 = .ok (.getfield 52, 3) := by decide +kernel
theorem dX9_calledWithin_46 : decode cX9_calledWithin 46 = .ok (.dup, 1) := by decide +kernel
theorem dX9_calledWithin_47 : decode cX9_calledWithin 47 = .ok (.getfield 219, 3) := by decide +kernel
theorem dX9_calledWithin_50 : decode cX9_calledWithin 50 = .ok (.lconst 1, 1) := by decide +kernel
theorem dX9_calledWithin_51 : decode cX9_calledWithin 51 = .ok (.ladd, 1) := by decide +kernel
theorem dX9_calledWithin_52 : decode cX9_calledWithin 52 = .ok (.putfield 219, 3) := by decide +kernel
theorem dX9_calledWithin_55 : decode cX9_calledWithin 55 = .ok (.aload_n 2, 1) := by decide +kernel
theorem dX9_calledWithin_56 : decode cX9_calledWithin 56 = .ok (.areturn, 1) := by decide +kernel
theorem dX10_init_0 : decode cX10_init 0 = .ok (.aload_n 0, 1) := by decide +kernel
theorem dX10_init_1 : decode cX10_init 1 = .ok (.invokespecial 1, 3) := by decide +kernel
theorem dX10_init_4 : decode cX10_init 4 = .ok (.aload_n 0, 1) := by decide +kernel
theorem dX10_init_5 : decode cX10_init 5 = .ok (.bipush 12, 2) := by decide +kernel
theorem dX10_init_7 : decode cX10_init 7 = .ok (.newarray .int, 2) := by decide +kernel
theorem dX10_init_9 : decode cX10_init 9 = .ok (.putfield 7, 3) := by decide +kernel
theorem dX10_init_12 : decode cX10_init 12 = .ok (.aload_n 0, 1) := by decide +kernel
theorem dX10_init_13 : decode cX10_init 13 = .ok (.sipush 256, 3) := by decide +kernel
theorem dX10_init_16 : decode cX10_init 16 = .ok (.newarray .boolean, 2) := by decide +kernel
theorem dX10_init_18 : decode cX10_init 18 = .ok (.putfield 13, 3) := by decide +kernel
theorem dX10_init_21 : decode cX10_init 21 = .ok (.aload_n 0, 1) := by decide +kernel
theorem dX10_init_22 : decode cX10_init 22 = .ok (.sipush 256, 3) := by decide +kernel
theorem dX10_init_25 : decode cX10_init 25 = .ok (.newarray .boolean, 2) := by decide +kernel
theorem dX10_init_27 : decode cX10_init 27 = .ok (.putfield 17, 3) := by decide +kernel
theorem dX10_init_30 : decode cX10_init 30 = .ok (.aload_n 0, 1) := by decide +kernel
theorem dX10_init_31 : decode cX10_init 31 = .ok (.bipush 12, 2) := by decide +kernel
theorem dX10_init_33 : decode cX10_init 33 = .ok (.newarray .boolean, 2) := by decide +kernel
theorem dX10_init_35 : decode cX10_init 35 = .ok (.putfield 20, 3) := by decide +kernel
theorem dX10_init_38 : decode cX10_init 38 = .ok (.aload_n 0, 1) := by decide +kernel
theorem dX10_init_39 : decode cX10_init 39 = .ok (.sipush 300, 3) := by decide +kernel
theorem dX10_init_42 : decode cX10_init 42 = .ok (.newarray .int, 2) := by decide +kernel
theorem dX10_init_44 : decode cX10_init 44 = .ok (.putfield 23, 3) := by decide +kernel
theorem dX10_init_47 : decode cX10_init 47 = .ok (.aload_n 0, 1) := by decide +kernel
theorem dX10_init_48 : decode cX10_init 48 = .ok (.sipush 300, 3) := by decide +kernel
theorem dX10_init_51 : decode cX10_init 51 = .ok (.newarray .int, 2) := by decide +kernel
theorem dX10_init_53 : decode cX10_init 53 = .ok (.putfield 26, 3) := by decide +kernel
theorem dX10_init_56 : decode cX10_init 56 = .ok (.aload_n 0, 1) := by decide +kernel
theorem dX10_init_57 : decode cX10_init 57 = .ok (.iconst 4, 1) := by decide +kernel
theorem dX10_init_58 : decode cX10_init 58 = .ok (.newarray .int, 2) := by decide +kernel
theorem dX10_init_60 : decode cX10_init 60 = .ok (.putfield 29, 3) := by decide +kernel
theorem dX10_init_63 : decode cX10_init 63 = .ok (.aload_n 0, 1) := by decide +kernel
theorem dX10_init_64 : decode cX10_init 64 = .ok (.iconst 4, 1) := by decide +kernel
theorem dX10_init_65 : decode cX10_init 65 = .ok (.newarray .boolean, 2) := by decide +kernel
theorem dX10_init_67 : decode cX10_init 67 = .ok (.putfield 32, 3) := by decide +kernel
theorem dX10_init_70 : decode cX10_init 70 = .ok (.aload_n 0, 1) := by decide +kernel
theorem dX10_init_71 : decode cX10_init 71 = .ok (.iconst 4, 1) := by decide +kernel
theorem dX10_init_72 : decode cX10_init 72 = .ok (.newarray .int, 2) := by decide +kernel
theorem dX10_init_74 : decode cX10_init 74 = .ok (.putfield 35, 3) := by decide +kernel
theorem dX10_init_77 : decode cX10_init 77 = .ok (.aload_n 0, 1) := by decide +kernel
theorem dX10_init_78 : decode cX10_init 78 = .ok (.sipush 256, 3) := by decide +kernel
theorem dX10_init_81 : decode cX10_init 81 = .ok (.newarray .long, 2) := by decide +kernel
theorem dX10_init_83 : decode cX10_init 83 = .ok (.putfield 38, 3) := by decide +kernel
theorem dX10_init_86 : decode cX10_init 86 = .ok (.aload_n 0, 1) := by decide +kernel
theorem dX10_init_87 : decode cX10_init 87 = .ok (.iconst 4, 1) := by decide +kernel
theorem dX10_init_88 : decode cX10_init 88 = .ok (.newarray .int, 2) := by decide +kernel
theorem dX10_init_90 : decode cX10_init 90 = .ok (.putfield 42, 3) := by decide +kernel
theorem dX10_init_93 : decode cX10_init 93 = .ok (.aload_n 0, 1) := by decide +kernel
theorem dX10_init_94 : decode cX10_init 94 = .ok (.bipush 40, 2) := by decide +kernel
theorem dX10_init_96 : decode cX10_init 96 = .ok (.newarray .int, 2) := by decide +kernel
theorem dX10_init_98 : decode cX10_init 98 = .ok (.putfield 45, 3) := by decide +kernel
theorem dX10_init_101 : decode cX10_init 101 = .ok (.aload_n 0, 1) := by decide +kernel
theorem dX10_init_102 : decode cX10_init 102 = .ok (.bipush 40, 2) := by decide +kernel
theorem dX10_init_104 : decode cX10_init 104 = .ok (.newarray .int, 2) := by decide +kernel
theorem dX10_init_106 : decode cX10_init 106 = .ok (.putfield 48, 3) := by decide +kernel
theorem dX10_init_109 : decode cX10_init 109 = .ok (.aload_n 0, 1) := by decide +kernel
theorem dX10_init_110 : decode cX10_init 110 = .ok (.bipush 40, 2) := by decide +kernel
theorem dX10_init_112 : decode cX10_init 112 = .ok (.newarray .int, 2) := by decide +kernel
theorem dX10_init_114 : decode cX10_init 114 = .ok (.putfield 51, 3) := by decide +kernel
theorem dX10_init_117 : decode cX10_init 117 = .ok (.aload_n 0, 1) := by decide +kernel
theorem dX10_init_118 : decode cX10_init 118 = .ok (.bipush 40, 2) := by decide +kernel
theorem dX10_init_120 : decode cX10_init 120 = .ok (.newarray .boolean, 2) := by decide +kernel
theorem dX10_init_122 : decode cX10_init 122 = .ok (.putfield 54, 3) := by decide +kernel
theorem dX10_init_125 : decode cX10_init 125 = .ok (.aload_n 0, 1) := by decide +kernel
theorem dX10_init_126 : decode cX10_init 126 = .ok (.bipush 40, 2) := by decide +kernel
theorem dX10_init_128 : decode cX10_init 128 = .ok (.newarray .int, 2) := by decide +kernel
theorem dX10_init_130 : decode cX10_init 130 = .ok (.putfield 57, 3) := by decide +kernel
theorem dX10_init_133 : decode cX10_init 133 = .ok (.aload_n 0, 1) := by decide +kernel
theorem dX10_init_134 : decode cX10_init 134 = .ok (.bipush 80, 2) := by decide +kernel
theorem dX10_init_136 : decode cX10_init 136 = .ok (.newarray .int, 2) := by decide +kernel
theorem dX10_init_138 : decode cX10_init 138 = .ok (.putfield 60, 3) := by decide +kernel
theorem dX10_init_141 : decode cX10_init 141 = .ok (.aload_n 0, 1) := by decide +kernel
theorem dX10_init_142 : decode cX10_init 142 = .ok (.bipush 80, 2) := by decide +kernel
theorem dX10_init_144 : decode cX10_init 144 = .ok (.newarray .int, 2) := by decide +kernel
theorem dX10_init_146 : decode cX10_init 146 = .ok (.putfield 63, 3) := by decide +kernel
theorem dX10_init_149 : decode cX10_init 149 = .ok (.aload_n 0, 1) := by decide +kernel
theorem dX10_init_150 : decode cX10_init 150 = .ok (.bipush 80, 2) := by decide +kernel
theorem dX10_init_152 : decode cX10_init 152 = .ok (.newarray .int, 2) := by decide +kernel
theorem dX10_init_154 : decode cX10_init 154 = .ok (.putfield 66, 3) := by decide +kernel
theorem dX10_init_157 : decode cX10_init 157 = .ok (.aload_n 0, 1) := by decide +kernel
theorem dX10_init_158 : decode cX10_init 158 = .ok (.bipush 8, 2) := by decide +kernel
theorem dX10_init_160 : decode cX10_init 160 = .ok (.newarray .int, 2) := by decide +kernel
theorem dX10_init_162 : decode cX10_init 162 = .ok (.putfield 69, 3) := by decide +kernel
theorem dX10_init_165 : decode cX10_init 165 = .ok (.aload_n 0, 1) := by decide +kernel
theorem dX10_init_166 : decode cX10_init 166 = .ok (.iconst 2, 1) := by decide +kernel
theorem dX10_init_167 : decode cX10_init 167 = .ok (.newarray .int, 2) := by decide +kernel
theorem dX10_init_169 : decode cX10_init 169 = .ok (.putfield 72, 3) := by decide +kernel
theorem dX10_init_172 : decode cX10_init 172 = .ok (.aload_n 0, 1) := by decide +kernel
theorem dX10_init_173 : decode cX10_init 173 = .ok (.iconst (-1), 1) := by decide +kernel
theorem dX10_init_174 : decode cX10_init 174 = .ok (.putfield 75, 3) := by decide +kernel
theorem dX10_init_177 : decode cX10_init 177 = .ok (.aload_n 0, 1) := by decide +kernel
theorem dX10_init_178 : decode cX10_init 178 = .ok (.sipush 1000, 3) := by decide +kernel
theorem dX10_init_181 : decode cX10_init 181 = .ok (.newarray .int, 2) := by decide +kernel
theorem dX10_init_183 : decode cX10_init 183 = .ok (.putfield 79, 3) := by decide +kernel
theorem dX10_init_186 : decode cX10_init 186 = .ok (.aload_n 0, 1) := by decide +kernel
theorem dX10_init_187 : decode cX10_init 187 = .ok (.iconst 2, 1) := by decide +kernel
theorem dX10_init_188 : decode cX10_init 188 = .ok (.newarray .int, 2) := by decide +kernel
theorem dX10_init_190 : decode cX10_init 190 = .ok (.putfield 82, 3) := by decide +kernel
theorem dX10_init_193 : decode cX10_init 193 = .ok (.aload_n 0, 1) := by decide +kernel
theorem dX10_init_194 : decode cX10_init 194 = .ok (.iconst 2, 1) := by decide +kernel
theorem dX10_init_195 : decode cX10_init 195 = .ok (.newarray .long, 2) := by decide +kernel
theorem dX10_init_197 : decode cX10_init 197 = .ok (.putfield 85, 3) := by decide +kernel
theorem dX10_init_200 : decode cX10_init 200 = .ok (.aload_n 0, 1) := by decide +kernel
theorem dX10_init_201 : decode cX10_init 201 = .ok (.iconst (-1), 1) := by decide +kernel
theorem dX10_init_202 : decode cX10_init 202 = .ok (.putfield 88, 3) := by decide +kernel
theorem dX10_init_205 : decode cX10_init 205 = .ok (.aload_n 0, 1) := by decide +kernel
theorem dX10_init_206 : decode cX10_init 206 = .ok (.bipush 40, 2) := by decide +kernel
theorem dX10_init_208 : decode cX10_init 208 = .ok (.newarray .boolean, 2) := by decide +kernel
theorem dX10_init_210 : decode cX10_init 210 = .ok (.putfield 91, 3) := by decide +kernel
theorem dX10_init_213 : decode cX10_init 213 = .ok (.aload_n 0, 1) := by decide +kernel
theorem dX10_init_214 : decode cX10_init 214 = .ok (.bipush 68, 2) := by decide +kernel
theorem dX10_init_216 : decode cX10_init 216 = .ok (.newarray .long, 2) := by decide +kernel
theorem dX10_init_218 : decode cX10_init 218 = .ok (.putfield 94, 3) := by decide +kernel
theorem dX10_init_221 : decode cX10_init 221 = .ok (.aload_n 0, 1) := by decide +kernel
theorem dX10_init_222 : decode cX10_init 222 = .ok (.iconst 2, 1) := by decide +kernel
theorem dX10_init_223 : decode cX10_init 223 = .ok (.newarray .int, 2) := by decide +kernel
theorem dX10_init_225 : decode cX10_init 225 = .ok (.putfield 97, 3) := by decide +kernel
theorem dX10_init_228 : decode cX10_init 228 = .ok (.aload_n 0, 1) := by decide +kernel
theorem dX10_init_229 : decode cX10_init 229 = .ok (.iconst 2, 1) := by decide +kernel
theorem dX10_init_230 : decode cX10_init 230 = .ok (.newarray .int, 2) := by decide +kernel
theorem dX10_init_232 : decode cX10_init 232 = .ok (.putfield 100, 3) := by decide +kernel
theorem dX10_init_235 : decode cX10_init 235 = .ok (.aload_n 0, 1) := by decide +kernel
theorem dX10_init_236 : decode cX10_init 236 = .ok (.iconst 4, 1) := by decide +kernel
theorem dX10_init_237 : decode cX10_init 237 = .ok (.newarray .long, 2) := by decide +kernel
theorem dX10_init_239 : decode cX10_init 239 = .ok (.putfield 103, 3) := by decide +kernel
theorem dX10_init_242 : decode cX10_init 242 = .ok (.iconst 0, 1) := by decide +kernel
theorem dX10_init_243 : decode cX10_init 243 = .ok (.istore_n 1, 1) := by decide +kernel
theorem dX10_init_244 : decode cX10_init 244 = .ok (.iload_n 1, 1) := by decide +kernel
theorem dX10_init_245 : decode cX10_init 245 = .ok (.bipush 12, 2) := by decide +kernel
theorem dX10_init_247 : decode cX10_init 247 = .ok (.if_icmp .ge 16, 3) := by decide +kernel
theorem dX10_init_250 : decode cX10_init 250 = .ok (.aload_n 0, 1) := by decide +kernel
theorem dX10_init_251 : decode cX10_init 251 = .ok (.getfield 7, 3) := by decide +kernel
theorem dX10_init_254 : decode cX10_init 254 = .ok (.iload_n 1, 1) := by decide +kernel
theorem dX10_init_255 : decode cX10_init 255 = .ok (.iconst (-1), 1) := by decide +kernel
theorem dX10_init_256 : decode cX10_init 256 = .ok (.iastore, 1) := by decide +kernel
theorem dX10_init_257 : decode cX10_init 257 = .ok (.iinc 1 1, 3) := by decide +kernel
theorem dX10_init_260 : decode cX10_init 260 = .ok (.goto (-16), 3) := by decide +kernel
theorem dX10_init_263 : decode cX10_init 263 = .ok (.aload_n 0, 1) := by decide +kernel
theorem dX10_init_264 : decode cX10_init 264 = .ok (.getfield 72, 3) := by decide +kernel
theorem dX10_init_267 : decode cX10_init 267 = .ok (.iconst 0, 1) := by decide +kernel
theorem dX10_init_268 : decode cX10_init 268 = .ok (.iconst (-1), 1) := by decide +kernel
theorem dX10_init_269 : decode cX10_init 269 = .ok (.iastore, 1) := by decide +kernel
theorem dX10_init_270 : decode cX10_init 270 = .ok (.aload_n 0, 1) := by decide +kernel
theorem dX10_init_271 : decode cX10_init 271 = .ok (.getfield 72, 3) := by decide +kernel
theorem dX10_init_274 : decode cX10_init 274 = .ok (.iconst 1, 1) := by decide +kernel
theorem dX10_init_275 : decode cX10_init 275 = .ok (.iconst (-1), 1) := by decide +kernel
theorem dX10_init_276 : decode cX10_init 276 = .ok (.iastore, 1) := by decide +kernel
theorem dX10_init_277 : decode cX10_init 277 = .ok (.return_, 1) := by decide +kernel
theorem dX10_isClass_0 : decode cX10_isClass 0 = .ok (.iload_n 0, 1) := by decide +kernel
theorem dX10_isClass_1 : decode cX10_isClass 1 = .ok (.ifCond .lt 13, 3) := by decide +kernel
theorem dX10_isClass_4 : decode cX10_isClass 4 = .ok (.iload_n 0, 1) := by decide +kernel
theorem dX10_isClass_5 : decode cX10_isClass 5 = .ok (.bipush 12, 2) := by decide +kernel
theorem dX10_isClass_7 : decode cX10_isClass 7 = .ok (.if_icmp .ge 7, 3) := by decide +kernel
theorem dX10_isClass_10 : decode cX10_isClass 10 = .ok (.iconst 1, 1) := by decide +kernel
theorem dX10_isClass_11 : decode cX10_isClass 11 = .ok (.goto 4, 3) := by decide +kernel
theorem dX10_isClass_14 : decode cX10_isClass 14 = .ok (.iconst 0, 1) := by decide +kernel
theorem dX10_isClass_15 : decode cX10_isClass 15 = .ok (.ireturn, 1) := by decide +kernel
theorem dX10_isTrait_0 : decode cX10_isTrait 0 = .ok (.iload_n 0, 1) := by decide +kernel
theorem dX10_isTrait_1 : decode cX10_isTrait 1 = .ok (.bipush 12, 2) := by decide +kernel
theorem dX10_isTrait_3 : decode cX10_isTrait 3 = .ok (.if_icmp .lt 13, 3) := by decide +kernel
theorem dX10_isTrait_6 : decode cX10_isTrait 6 = .ok (.iload_n 0, 1) := by decide +kernel
theorem dX10_isTrait_7 : decode cX10_isTrait 7 = .ok (.bipush 16, 2) := by decide +kernel
theorem dX10_isTrait_9 : decode cX10_isTrait 9 = .ok (.if_icmp .ge 7, 3) := by decide +kernel
theorem dX10_isTrait_12 : decode cX10_isTrait 12 = .ok (.iconst 1, 1) := by decide +kernel
theorem dX10_isTrait_13 : decode cX10_isTrait 13 = .ok (.goto 4, 3) := by decide +kernel
theorem dX10_isTrait_16 : decode cX10_isTrait 16 = .ok (.iconst 0, 1) := by decide +kernel
theorem dX10_isTrait_17 : decode cX10_isTrait 17 = .ok (.ireturn, 1) := by decide +kernel
theorem dX10_parent_0 : decode cX10_parent 0 = .ok (.iload_n 1, 1) := by decide +kernel
theorem dX10_parent_1 : decode cX10_parent 1 = .ok (.invokestatic 106, 3) := by decide +kernel
theorem dX10_parent_4 : decode cX10_parent 4 = .ok (.ifCond .eq 15, 3) := by decide +kernel
theorem dX10_parent_7 : decode cX10_parent 7 = .ok (.iload_n 2, 1) := by decide +kernel
theorem dX10_parent_8 : decode cX10_parent 8 = .ok (.iconst (-1), 1) := by decide +kernel
theorem dX10_parent_9 : decode cX10_parent 9 = .ok (.if_icmp .eq 13, 3) := by decide +kernel
theorem dX10_parent_12 : decode cX10_parent 12 = .ok (.iload_n 2, 1) := by decide +kernel
theorem dX10_parent_13 : decode cX10_parent 13 = .ok (.invokestatic 106, 3) := by decide +kernel
theorem dX10_parent_16 : decode cX10_parent 16 = .ok (.ifCond .ne 6, 3) := by decide +kernel
theorem dX10_parent_19 : decode cX10_parent 19 = .ok (.bipush (-2), 2) := by decide +kernel
theorem dX10_parent_21 : decode cX10_parent 21 = .ok (.ireturn, 1) := by decide +kernel
theorem dX10_parent_22 : decode cX10_parent 22 = .ok (.aload_n 0, 1) := by decide +kernel
theorem dX10_parent_23 : decode cX10_parent 23 = .ok (.getfield 110, 3) := by decide +kernel
theorem dX10_parent_26 : decode cX10_parent 26 = .ok (.ifCond .eq 6, 3) := by decide +kernel
theorem dX10_parent_29 : decode cX10_parent 29 = .ok (.bipush (-3), 2) := by decide +kernel
theorem dX10_parent_31 : decode cX10_parent 31 = .ok (.ireturn, 1) := by decide +kernel
theorem dX10_parent_32 : decode cX10_parent 32 = .ok (.aload_n 0, 1) := by decide +kernel
theorem dX10_parent_33 : decode cX10_parent 33 = .ok (.getfield 7, 3) := by decide +kernel
theorem dX10_parent_36 : decode cX10_parent 36 = .ok (.iload_n 1, 1) := by decide +kernel
theorem dX10_parent_37 : decode cX10_parent 37 = .ok (.iload_n 2, 1) := by decide +kernel
theorem dX10_parent_38 : decode cX10_parent 38 = .ok (.iastore, 1) := by decide +kernel
theorem dX10_parent_39 : decode cX10_parent 39 = .ok (.iconst 1, 1) := by decide +kernel
theorem dX10_parent_40 : decode cX10_parent 40 = .ok (.ireturn, 1) := by decide +kernel
theorem dX10_add_0 : decode cX10_add 0 = .ok (.aload_n 0, 1) := by decide +kernel
theorem dX10_add_1 : decode cX10_add 1 = .ok (.getfield 110, 3) := by decide +kernel
theorem dX10_add_4 : decode cX10_add 4 = .ok (.ifCond .eq 6, 3) := by decide +kernel
theorem dX10_add_7 : decode cX10_add 7 = .ok (.bipush (-3), 2) := by decide +kernel
theorem dX10_add_9 : decode cX10_add 9 = .ok (.ireturn, 1) := by decide +kernel
theorem dX10_add_10 : decode cX10_add 10 = .ok (.aload_n 0, 1) := by decide +kernel
theorem dX10_add_11 : decode cX10_add 11 = .ok (.getfield 13, 3) := by decide +kernel
theorem dX10_add_14 : decode cX10_add 14 = .ok (.bipush 16, 2) := by decide +kernel
theorem dX10_add_16 : decode cX10_add 16 = .ok (.iload_n 1, 1) := by decide +kernel
theorem dX10_add_17 : decode cX10_add 17 = .ok (.imul, 1) := by decide +kernel
theorem dX10_add_18 : decode cX10_add 18 = .ok (.iload_n 2, 1) := by decide +kernel
theorem dX10_add_19 : decode cX10_add 19 = .ok (.iadd, 1) := by decide +kernel
theorem dX10_add_20 : decode cX10_add 20 = .ok (.baload, 1) := by decide +kernel
theorem dX10_add_21 : decode cX10_add 21 = .ok (.ifCond .eq 7, 3) := by decide +kernel
theorem dX10_add_24 : decode cX10_add 24 = .ok (.iconst 0, 1) := by decide +kernel
theorem dX10_add_25 : decode cX10_add 25 = .ok (.goto 4, 3) := by decide +kernel
theorem dX10_add_28 : decode cX10_add 28 = .ok (.iconst 1, 1) := by decide +kernel
theorem dX10_add_29 : decode cX10_add 29 = .ok (.istore_n 3, 1) := by decide +kernel
theorem dX10_add_30 : decode cX10_add 30 = .ok (.aload_n 0, 1) := by decide +kernel
theorem dX10_add_31 : decode cX10_add 31 = .ok (.getfield 13, 3) := by decide +kernel
theorem dX10_add_34 : decode cX10_add 34 = .ok (.bipush 16, 2) := by decide +kernel
theorem dX10_add_36 : decode cX10_add 36 = .ok (.iload_n 1, 1) := by decide +kernel
theorem dX10_add_37 : decode cX10_add 37 = .ok (.imul, 1) := by decide +kernel
theorem dX10_add_38 : decode cX10_add 38 = .ok (.iload_n 2, 1) := by decide +kernel
theorem dX10_add_39 : decode cX10_add 39 = .ok (.iadd, 1) := by decide +kernel
theorem dX10_add_40 : decode cX10_add 40 = .ok (.iconst 1, 1) := by decide +kernel
theorem dX10_add_41 : decode cX10_add 41 = .ok (.bastore, 1) := by decide +kernel
theorem dX10_add_42 : decode cX10_add 42 = .ok (.iload_n 3, 1) := by decide +kernel
theorem dX10_add_43 : decode cX10_add 43 = .ok (.ireturn, 1) := by decide +kernel
theorem dX10_trait_0 : decode cX10_trait 0 = .ok (.iload_n 1, 1) := by decide +kernel
theorem dX10_trait_1 : decode cX10_trait 1 = .ok (.invokestatic 114, 3) := by decide +kernel
theorem dX10_trait_4 : decode cX10_trait 4 = .ok (.ifCond .eq 19, 3) := by decide +kernel
theorem dX10_trait_7 : decode cX10_trait 7 = .ok (.iload_n 2, 1) := by decide +kernel
theorem dX10_trait_8 : decode cX10_trait 8 = .ok (.invokestatic 114, 3) := by decide +kernel
theorem dX10_trait_11 : decode cX10_trait 11 = .ok (.ifCond .eq 12, 3) := by decide +kernel
theorem dX10_trait_14 : decode cX10_trait 14 = .ok (.aload_n 0, 1) := by decide +kernel
theorem dX10_trait_15 : decode cX10_trait 15 = .ok (.iload_n 1, 1) := by decide +kernel
theorem dX10_trait_16 : decode cX10_trait 16 = .ok (.iload_n 2, 1) := by decide +kernel
theorem dX10_trait_17 : decode cX10_trait 17 = .ok (.invokevirtual 117, 3) := by decide +kernel
theorem dX10_trait_20 : decode cX10_trait 20 = .ok (.goto 5, 3) := by decide +kernel
theorem dX10_trait_23 : decode cX10_trait 23 = .ok (.bipush (-2), 2) := by decide +kernel
theorem dX10_trait_25 : decode cX10_trait 25 = .ok (.ireturn, 1) := by decide +kernel
theorem dX10_has_0 : decode cX10_has 0 = .ok (.iload_n 1, 1) := by decide +kernel
theorem dX10_has_1 : decode cX10_has 1 = .ok (.invokestatic 106, 3) := by decide +kernel
theorem dX10_has_4 : decode cX10_has 4 = .ok (.ifCond .eq 19, 3) := by decide +kernel
theorem dX10_has_7 : decode cX10_has 7 = .ok (.iload_n 2, 1) := by decide +kernel
theorem dX10_has_8 : decode cX10_has 8 = .ok (.invokestatic 114, 3) := by decide +kernel
theorem dX10_has_11 : decode cX10_has 11 = .ok (.ifCond .eq 12, 3) := by decide +kernel
theorem dX10_has_14 : decode cX10_has 14 = .ok (.aload_n 0, 1) := by decide +kernel
theorem dX10_has_15 : decode cX10_has 15 = .ok (.iload_n 1, 1) := by decide +kernel
theorem dX10_has_16 : decode cX10_has 16 = .ok (.iload_n 2, 1) := by decide +kernel
theorem dX10_has_17 : decode cX10_has 17 = .ok (.invokevirtual 117, 3) := by decide +kernel
theorem dX10_has_20 : decode cX10_has 20 = .ok (.goto 5, 3) := by decide +kernel
theorem dX10_has_23 : decode cX10_has 23 = .ok (.bipush (-2), 2) := by decide +kernel
theorem dX10_has_25 : decode cX10_has 25 = .ok (.ireturn, 1) := by decide +kernel
theorem dX10_flag_0 : decode cX10_flag 0 = .ok (.iload_n 1, 1) := by decide +kernel
theorem dX10_flag_1 : decode cX10_flag 1 = .ok (.invokestatic 106, 3) := by decide +kernel
theorem dX10_flag_4 : decode cX10_flag 4 = .ok (.ifCond .ne 6, 3) := by decide +kernel
theorem dX10_flag_7 : decode cX10_flag 7 = .ok (.bipush (-2), 2) := by decide +kernel
theorem dX10_flag_9 : decode cX10_flag 9 = .ok (.ireturn, 1) := by decide +kernel
theorem dX10_flag_10 : decode cX10_flag 10 = .ok (.aload_n 0, 1) := by decide +kernel
theorem dX10_flag_11 : decode cX10_flag 11 = .ok (.getfield 110, 3) := by decide +kernel
theorem dX10_flag_14 : decode cX10_flag 14 = .ok (.ifCond .eq 6, 3) := by decide +kernel
theorem dX10_flag_17 : decode cX10_flag 17 = .ok (.bipush (-3), 2) := by decide +kernel
theorem dX10_flag_19 : decode cX10_flag 19 = .ok (.ireturn, 1) := by decide +kernel
theorem dX10_flag_20 : decode cX10_flag 20 = .ok (.aload_n 0, 1) := by decide +kernel
theorem dX10_flag_21 : decode cX10_flag 21 = .ok (.getfield 20, 3) := by decide +kernel
theorem dX10_flag_24 : decode cX10_flag 24 = .ok (.iload_n 1, 1) := by decide +kernel
theorem dX10_flag_25 : decode cX10_flag 25 = .ok (.baload, 1) := by decide +kernel
theorem dX10_flag_26 : decode cX10_flag 26 = .ok (.ifCond .eq 7, 3) := by decide +kernel
theorem dX10_flag_29 : decode cX10_flag 29 = .ok (.iconst 0, 1) := by decide +kernel
theorem dX10_flag_30 : decode cX10_flag 30 = .ok (.goto 4, 3) := by decide +kernel
theorem dX10_flag_33 : decode cX10_flag 33 = .ok (.iconst 1, 1) := by decide +kernel
theorem dX10_flag_34 : decode cX10_flag 34 = .ok (.istore_n 2, 1) := by decide +kernel
theorem dX10_flag_35 : decode cX10_flag 35 = .ok (.aload_n 0, 1) := by decide +kernel
theorem dX10_flag_36 : decode cX10_flag 36 = .ok (.getfield 20, 3) := by decide +kernel
theorem dX10_flag_39 : decode cX10_flag 39 = .ok (.iload_n 1, 1) := by decide +kernel
theorem dX10_flag_40 : decode cX10_flag 40 = .ok (.iconst 1, 1) := by decide +kernel
theorem dX10_flag_41 : decode cX10_flag 41 = .ok (.bastore, 1) := by decide +kernel
theorem dX10_flag_42 : decode cX10_flag 42 = .ok (.iload_n 2, 1) := by decide +kernel
theorem dX10_flag_43 : decode cX10_flag 43 = .ok (.ireturn, 1) := by decide +kernel
theorem dX10_close_0 : decode cX10_close 0 = .ok (.aload_n 0, 1) := by decide +kernel
theorem dX10_close_1 : decode cX10_close 1 = .ok (.getfield 110, 3) := by decide +kernel
theorem dX10_close_4 : decode cX10_close 4 = .ok (.ifCond .eq 6, 3) := by decide +kernel
theorem dX10_close_7 : decode cX10_close 7 = .ok (.bipush (-3), 2) := by decide +kernel
theorem dX10_close_9 : decode cX10_close 9 = .ok (.ireturn, 1) := by decide +kernel
theorem dX10_close_10 : decode cX10_close 10 = .ok (.iconst 0, 1) := by decide +kernel
theorem dX10_close_11 : decode cX10_close 11 = .ok (.istore_n 1, 1) := by decide +kernel
theorem dX10_close_12 : decode cX10_close 12 = .ok (.iload_n 1, 1) := by decide +kernel
theorem dX10_close_13 : decode cX10_close 13 = .ok (.sipush 256, 3) := by decide +kernel
theorem dX10_close_16 : decode cX10_close 16 = .ok (.if_icmp .ge 21, 3) := by decide +kernel
theorem dX10_close_19 : decode cX10_close 19 = .ok (.aload_n 0, 1) := by decide +kernel
theorem dX10_close_20 : decode cX10_close 20 = .ok (.getfield 17, 3) := by decide +kernel
theorem dX10_close_23 : decode cX10_close 23 = .ok (.iload_n 1, 1) := by decide +kernel
theorem dX10_close_24 : decode cX10_close 24 = .ok (.aload_n 0, 1) := by decide +kernel
theorem dX10_close_25 : decode cX10_close 25 = .ok (.getfield 13, 3) := by decide +kernel
theorem dX10_close_28 : decode cX10_close 28 = .ok (.iload_n 1, 1) := by decide +kernel
theorem dX10_close_29 : decode cX10_close 29 = .ok (.baload, 1) := by decide +kernel
theorem dX10_close_30 : decode cX10_close 30 = .ok (.bastore, 1) := by decide +kernel
theorem dX10_close_31 : decode cX10_close 31 = .ok (.iinc 1 1, 3) := by decide +kernel
theorem dX10_close_34 : decode cX10_close 34 = .ok (.goto (-22), 3) := by decide +kernel
theorem dX10_close_37 : decode cX10_close 37 = .ok (.iconst 0, 1) := by decide +kernel
theorem dX10_close_38 : decode cX10_close 38 = .ok (.istore_n 1, 1) := by decide +kernel
theorem dX10_close_39 : decode cX10_close 39 = .ok (.iload_n 1, 1) := by decide +kernel
theorem dX10_close_40 : decode cX10_close 40 = .ok (.bipush 12, 2) := by decide +kernel
theorem dX10_close_42 : decode cX10_close 42 = .ok (.if_icmp .ge 35, 3) := by decide +kernel
theorem dX10_close_45 : decode cX10_close 45 = .ok (.aload_n 0, 1) := by decide +kernel
theorem dX10_close_46 : decode cX10_close 46 = .ok (.getfield 7, 3) := by decide +kernel
theorem dX10_close_49 : decode cX10_close 49 = .ok (.iload_n 1, 1) := by decide +kernel
theorem dX10_close_50 : decode cX10_close 50 = .ok (.iaload, 1) := by decide +kernel
theorem dX10_close_51 : decode cX10_close 51 = .ok (.ifCond .lt 20, 3) := by decide +kernel
theorem dX10_close_54 : decode cX10_close 54 = .ok (.aload_n 0, 1) := by decide +kernel
theorem dX10_close_55 : decode cX10_close 55 = .ok (.getfield 17, 3) := by decide +kernel
theorem dX10_close_58 : decode cX10_close 58 = .ok (.bipush 16, 2) := by decide +kernel
theorem dX10_close_60 : decode cX10_close 60 = .ok (.iload_n 1, 1) := by decide +kernel
theorem dX10_close_61 : decode cX10_close 61 = .ok (.imul, 1) := by decide +kernel
theorem dX10_close_62 : decode cX10_close 62 = .ok (.aload_n 0, 1) := by decide +kernel
theorem dX10_close_63 : decode cX10_close 63 = .ok (.getfield 7, 3) := by decide +kernel
theorem dX10_close_66 : decode cX10_close 66 = .ok (.iload_n 1, 1) := by decide +kernel
theorem dX10_close_67 : decode cX10_close 67 = .ok (.iaload, 1) := by decide +kernel
theorem dX10_close_68 : decode cX10_close 68 = .ok (.iadd, 1) := by decide +kernel
theorem dX10_close_69 : decode cX10_close 69 = .ok (.iconst 1, 1) := by decide +kernel
theorem dX10_close_70 : decode cX10_close 70 = .ok (.bastore, 1) := by decide +kernel
theorem dX10_close_71 : decode cX10_close 71 = .ok (.iinc 1 1, 3) := by decide +kernel
theorem dX10_close_74 : decode cX10_close 74 = .ok (.goto (-35), 3) := by decide +kernel
theorem dX10_close_77 : decode cX10_close 77 = .ok (.iconst 0, 1) := by decide +kernel
theorem dX10_close_78 : decode cX10_close 78 = .ok (.istore_n 1, 1) := by decide +kernel
theorem dX10_close_79 : decode cX10_close 79 = .ok (.iload_n 1, 1) := by decide +kernel
theorem dX10_close_80 : decode cX10_close 80 = .ok (.bipush 16, 2) := by decide +kernel
theorem dX10_close_82 : decode cX10_close 82 = .ok (.if_icmp .ge 95, 3) := by decide +kernel
theorem dX10_close_85 : decode cX10_close 85 = .ok (.iconst 0, 1) := by decide +kernel
theorem dX10_close_86 : decode cX10_close 86 = .ok (.istore_n 2, 1) := by decide +kernel
theorem dX10_close_87 : decode cX10_close 87 = .ok (.iload_n 2, 1) := by decide +kernel
theorem dX10_close_88 : decode cX10_close 88 = .ok (.bipush 16, 2) := by decide +kernel
theorem dX10_close_90 : decode cX10_close 90 = .ok (.if_icmp .ge 81, 3) := by decide +kernel
theorem dX10_close_93 : decode cX10_close 93 = .ok (.iconst 0, 1) := by decide +kernel
theorem dX10_close_94 : decode cX10_close 94 = .ok (.istore_n 3, 1) := by decide +kernel
theorem dX10_close_95 : decode cX10_close 95 = .ok (.iload_n 3, 1) := by decide +kernel
theorem dX10_close_96 : decode cX10_close 96 = .ok (.bipush 16, 2) := by decide +kernel
theorem dX10_close_98 : decode cX10_close 98 = .ok (.if_icmp .ge 67, 3) := by decide +kernel
theorem dX10_close_101 : decode cX10_close 101 = .ok (.aload_n 0, 1) := by decide +kernel
theorem dX10_close_102 : decode cX10_close 102 = .ok (.getfield 17, 3) := by decide +kernel
theorem dX10_close_105 : decode cX10_close 105 = .ok (.bipush 16, 2) := by decide +kernel
theorem dX10_close_107 : decode cX10_close 107 = .ok (.iload_n 2, 1) := by decide +kernel
theorem dX10_close_108 : decode cX10_close 108 = .ok (.imul, 1) := by decide +kernel
theorem dX10_close_109 : decode cX10_close 109 = .ok (.iload_n 3, 1) := by decide +kernel
theorem dX10_close_110 : decode cX10_close 110 = .ok (.iadd, 1) := by decide +kernel
theorem dX10_close_111 : decode cX10_close 111 = .ok (.aload_n 0, 1) := by decide +kernel
theorem dX10_close_112 : decode cX10_close 112 = .ok (.getfield 17, 3) := by decide +kernel
theorem dX10_close_115 : decode cX10_close 115 = .ok (.bipush 16, 2) := by decide +kernel
theorem dX10_close_117 : decode cX10_close 117 = .ok (.iload_n 2, 1) := by decide +kernel
theorem dX10_close_118 : decode cX10_close 118 = .ok (.imul, 1) := by decide +kernel
theorem dX10_close_119 : decode cX10_close 119 = .ok (.iload_n 3, 1) := by decide +kernel
theorem dX10_close_120 : decode cX10_close 120 = .ok (.iadd, 1) := by decide +kernel
theorem dX10_close_121 : decode cX10_close 121 = .ok (.baload, 1) := by decide +kernel
theorem dX10_close_122 : decode cX10_close 122 = .ok (.ifCond .ne 31, 3) := by decide +kernel
theorem dX10_close_125 : decode cX10_close 125 = .ok (.aload_n 0, 1) := by decide +kernel
theorem dX10_close_126 : decode cX10_close 126 = .ok (.getfield 17, 3) := by decide +kernel
theorem dX10_close_129 : decode cX10_close 129 = .ok (.bipush 16, 2) := by decide +kernel
theorem dX10_close_131 : decode cX10_close 131 = .ok (.iload_n 2, 1) := by decide +kernel
theorem dX10_close_132 : decode cX10_close 132 = .ok (.imul, 1) := by decide +kernel
theorem dX10_close_133 : decode cX10_close 133 = .ok (.iload_n 1, 1) := by decide +kernel
theorem dX10_close_134 : decode cX10_close 134 = .ok (.iadd, 1) := by decide +kernel
theorem dX10_close_135 : decode cX10_close 135 = .ok (.baload, 1) := by decide +kernel
theorem dX10_close_136 : decode cX10_close 136 = .ok (.ifCond .eq 21, 3) := by decide +kernel
theorem dX10_close_139 : decode cX10_close 139 = .ok (.aload_n 0, 1) := by decide +kernel
theorem dX10_close_140 : decode cX10_close 140 = .ok (.getfield 17, 3) := by decide +kernel
theorem dX10_close_143 : decode cX10_close 143 = .ok (.bipush 16, 2) := by decide +kernel
theorem dX10_close_145 : decode cX10_close 145 = .ok (.iload_n 1, 1) := by decide +kernel
theorem dX10_close_146 : decode cX10_close 146 = .ok (.imul, 1) := by decide +kernel
theorem dX10_close_147 : decode cX10_close 147 = .ok (.iload_n 3, 1) := by decide +kernel
theorem dX10_close_148 : decode cX10_close 148 = .ok (.iadd, 1) := by decide +kernel
theorem dX10_close_149 : decode cX10_close 149 = .ok (.baload, 1) := by decide +kernel
theorem dX10_close_150 : decode cX10_close 150 = .ok (.ifCond .eq 7, 3) := by decide +kernel
theorem dX10_close_153 : decode cX10_close 153 = .ok (.iconst 1, 1) := by decide +kernel
theorem dX10_close_154 : decode cX10_close 154 = .ok (.goto 4, 3) := by decide +kernel
theorem dX10_close_157 : decode cX10_close 157 = .ok (.iconst 0, 1) := by decide +kernel
theorem dX10_close_158 : decode cX10_close 158 = .ok (.bastore, 1) := by decide +kernel
theorem dX10_close_159 : decode cX10_close 159 = .ok (.iinc 3 1, 3) := by decide +kernel
theorem dX10_close_162 : decode cX10_close 162 = .ok (.goto (-67), 3) := by decide +kernel
theorem dX10_close_165 : decode cX10_close 165 = .ok (.iinc 2 1, 3) := by decide +kernel
theorem dX10_close_168 : decode cX10_close 168 = .ok (.goto (-81), 3) := by decide +kernel
theorem dX10_close_171 : decode cX10_close 171 = .ok (.iinc 1 1, 3) := by decide +kernel
theorem dX10_close_174 : decode cX10_close 174 = .ok (.goto (-95), 3) := by decide +kernel
theorem dX10_close_177 : decode cX10_close 177 = .ok (.iconst 0, 1) := by decide +kernel
theorem dX10_close_178 : decode cX10_close 178 = .ok (.istore_n 1, 1) := by decide +kernel
theorem dX10_close_179 : decode cX10_close 179 = .ok (.iload_n 1, 1) := by decide +kernel
theorem dX10_close_180 : decode cX10_close 180 = .ok (.bipush 16, 2) := by decide +kernel
theorem dX10_close_182 : decode cX10_close 182 = .ok (.if_icmp .ge 24, 3) := by decide +kernel
theorem dX10_close_185 : decode cX10_close 185 = .ok (.aload_n 0, 1) := by decide +kernel
theorem dX10_close_186 : decode cX10_close 186 = .ok (.getfield 17, 3) := by decide +kernel
theorem dX10_close_189 : decode cX10_close 189 = .ok (.bipush 17, 2) := by decide +kernel
theorem dX10_close_191 : decode cX10_close 191 = .ok (.iload_n 1, 1) := by decide +kernel
theorem dX10_close_192 : decode cX10_close 192 = .ok (.imul, 1) := by decide +kernel
theorem dX10_close_193 : decode cX10_close 193 = .ok (.baload, 1) := by decide +kernel
theorem dX10_close_194 : decode cX10_close 194 = .ok (.ifCond .eq 6, 3) := by decide +kernel
theorem dX10_close_197 : decode cX10_close 197 = .ok (.bipush (-5), 2) := by decide +kernel
theorem dX10_close_199 : decode cX10_close 199 = .ok (.ireturn, 1) := by decide +kernel
theorem dX10_close_200 : decode cX10_close 200 = .ok (.iinc 1 1, 3) := by decide +kernel
theorem dX10_close_203 : decode cX10_close 203 = .ok (.goto (-24), 3) := by decide +kernel
theorem dX10_close_206 : decode cX10_close 206 = .ok (.iconst 0, 1) := by decide +kernel
theorem dX10_close_207 : decode cX10_close 207 = .ok (.istore_n 1, 1) := by decide +kernel
theorem dX10_close_208 : decode cX10_close 208 = .ok (.iload_n 1, 1) := by decide +kernel
theorem dX10_close_209 : decode cX10_close 209 = .ok (.bipush 16, 2) := by decide +kernel
theorem dX10_close_211 : decode cX10_close 211 = .ok (.if_icmp .ge 19, 3) := by decide +kernel
theorem dX10_close_214 : decode cX10_close 214 = .ok (.aload_n 0, 1) := by decide +kernel
theorem dX10_close_215 : decode cX10_close 215 = .ok (.getfield 17, 3) := by decide +kernel
theorem dX10_close_218 : decode cX10_close 218 = .ok (.bipush 17, 2) := by decide +kernel
theorem dX10_close_220 : decode cX10_close 220 = .ok (.iload_n 1, 1) := by decide +kernel
theorem dX10_close_221 : decode cX10_close 221 = .ok (.imul, 1) := by decide +kernel
theorem dX10_close_222 : decode cX10_close 222 = .ok (.iconst 1, 1) := by decide +kernel
theorem dX10_close_223 : decode cX10_close 223 = .ok (.bastore, 1) := by decide +kernel
theorem dX10_close_224 : decode cX10_close 224 = .ok (.iinc 1 1, 3) := by decide +kernel
theorem dX10_close_227 : decode cX10_close 227 = .ok (.goto (-19), 3) := by decide +kernel
theorem dX10_close_230 : decode cX10_close 230 = .ok (.aload_n 0, 1) := by decide +kernel
theorem dX10_close_231 : decode cX10_close 231 = .ok (.iconst 1, 1) := by decide +kernel
theorem dX10_close_232 : decode cX10_close 232 = .ok (.putfield 110, 3) := by decide +kernel
theorem dX10_close_235 : decode cX10_close 235 = .ok (.iconst 1, 1) := by decide +kernel
theorem dX10_close_236 : decode cX10_close 236 = .ok (.ireturn, 1) := by decide +kernel
theorem dX10_isBelow_0 : decode cX10_isBelow 0 = .ok (.aload_n 0, 1) := by decide +kernel
theorem dX10_isBelow_1 : decode cX10_isBelow 1 = .ok (.getfield 17, 3) := by decide +kernel
theorem dX10_isBelow_4 : decode cX10_isBelow 4 = .ok (.bipush 16, 2) := by decide +kernel
theorem dX10_isBelow_6 : decode cX10_isBelow 6 = .ok (.iload_n 1, 1) := by decide +kernel
theorem dX10_isBelow_7 : decode cX10_isBelow 7 = .ok (.imul, 1) := by decide +kernel
theorem dX10_isBelow_8 : decode cX10_isBelow 8 = .ok (.iload_n 2, 1) := by decide +kernel
theorem dX10_isBelow_9 : decode cX10_isBelow 9 = .ok (.iadd, 1) := by decide +kernel
theorem dX10_isBelow_10 : decode cX10_isBelow 10 = .ok (.baload, 1) := by decide +kernel
theorem dX10_isBelow_11 : decode cX10_isBelow 11 = .ok (.ireturn, 1) := by decide +kernel
theorem dX10_below_0 : decode cX10_below 0 = .ok (.aload_n 0, 1) := by decide +kernel
theorem dX10_below_1 : decode cX10_below 1 = .ok (.getfield 110, 3) := by decide +kernel
theorem dX10_below_4 : decode cX10_below 4 = .ok (.ifCond .eq 36, 3) := by decide +kernel
theorem dX10_below_7 : decode cX10_below 7 = .ok (.iload_n 1, 1) := by decide +kernel
theorem dX10_below_8 : decode cX10_below 8 = .ok (.ifCond .lt 32, 3) := by decide +kernel
theorem dX10_below_11 : decode cX10_below 11 = .ok (.iload_n 1, 1) := by decide +kernel
theorem dX10_below_12 : decode cX10_below 12 = .ok (.bipush 16, 2) := by decide +kernel
theorem dX10_below_14 : decode cX10_below 14 = .ok (.if_icmp .ge 26, 3) := by decide +kernel
theorem dX10_below_17 : decode cX10_below 17 = .ok (.iload_n 2, 1) := by decide +kernel
theorem dX10_below_18 : decode cX10_below 18 = .ok (.ifCond .lt 22, 3) := by decide +kernel
theorem dX10_below_21 : decode cX10_below 21 = .ok (.iload_n 2, 1) := by decide +kernel
theorem dX10_below_22 : decode cX10_below 22 = .ok (.bipush 16, 2) := by decide +kernel
theorem dX10_below_24 : decode cX10_below 24 = .ok (.if_icmp .ge 16, 3) := by decide +kernel
theorem dX10_below_27 : decode cX10_below 27 = .ok (.aload_n 0, 1) := by decide +kernel
theorem dX10_below_28 : decode cX10_below 28 = .ok (.iload_n 1, 1) := by decide +kernel
theorem dX10_below_29 : decode cX10_below 29 = .ok (.iload_n 2, 1) := by decide +kernel
theorem dX10_below_30 : decode cX10_below 30 = .ok (.invokevirtual 121, 3) := by decide +kernel
theorem dX10_below_33 : decode cX10_below 33 = .ok (.ifCond .eq 7, 3) := by decide +kernel
theorem dX10_below_36 : decode cX10_below 36 = .ok (.iconst 1, 1) := by decide +kernel
theorem dX10_below_37 : decode cX10_below 37 = .ok (.goto 4, 3) := by decide +kernel
theorem dX10_below_40 : decode cX10_below 40 = .ok (.iconst 0, 1) := by decide +kernel
theorem dX10_below_41 : decode cX10_below 41 = .ok (.ireturn, 1) := by decide +kernel
theorem dX10_sample_0 : decode cX10_sample 0 = .ok (.iload_n 1, 1) := by decide +kernel
theorem dX10_sample_1 : decode cX10_sample 1 = .ok (.invokestatic 106, 3) := by decide +kernel
theorem dX10_sample_4 : decode cX10_sample 4 = .ok (.ifCond .ne 6, 3) := by decide +kernel
theorem dX10_sample_7 : decode cX10_sample 7 = .ok (.bipush (-2), 2) := by decide +kernel
theorem dX10_sample_9 : decode cX10_sample 9 = .ok (.ireturn, 1) := by decide +kernel
theorem dX10_sample_10 : decode cX10_sample 10 = .ok (.aload_n 0, 1) := by decide +kernel
theorem dX10_sample_11 : decode cX10_sample 11 = .ok (.getfield 110, 3) := by decide +kernel
theorem dX10_sample_14 : decode cX10_sample 14 = .ok (.ifCond .ne 6, 3) := by decide +kernel
theorem dX10_sample_17 : decode cX10_sample 17 = .ok (.bipush (-3), 2) := by decide +kernel
theorem dX10_sample_19 : decode cX10_sample 19 = .ok (.ireturn, 1) := by decide +kernel
theorem dX10_sample_20 : decode cX10_sample 20 = .ok (.aload_n 0, 1) := by decide +kernel
theorem dX10_sample_21 : decode cX10_sample 21 = .ok (.getfield 20, 3) := by decide +kernel
theorem dX10_sample_24 : decode cX10_sample 24 = .ok (.iload_n 1, 1) := by decide +kernel
theorem dX10_sample_25 : decode cX10_sample 25 = .ok (.baload, 1) := by decide +kernel
theorem dX10_sample_26 : decode cX10_sample 26 = .ok (.ifCond .eq 6, 3) := by decide +kernel
theorem dX10_sample_29 : decode cX10_sample 29 = .ok (.bipush (-6), 2) := by decide +kernel
theorem dX10_sample_31 : decode cX10_sample 31 = .ok (.ireturn, 1) := by decide +kernel
theorem dX10_sample_32 : decode cX10_sample 32 = .ok (.aload_n 0, 1) := by decide +kernel
theorem dX10_sample_33 : decode cX10_sample 33 = .ok (.getfield 125, 3) := by decide +kernel
theorem dX10_sample_36 : decode cX10_sample 36 = .ok (.sipush 300, 3) := by decide +kernel
theorem dX10_sample_39 : decode cX10_sample 39 = .ok (.if_icmp .ne 6, 3) := by decide +kernel
theorem dX10_sample_42 : decode cX10_sample 42 = .ok (.bipush (-4), 2) := by decide +kernel
theorem dX10_sample_44 : decode cX10_sample 44 = .ok (.ireturn, 1) := by decide +kernel
theorem dX10_sample_45 : decode cX10_sample 45 = .ok (.aload_n 0, 1) := by decide +kernel
theorem dX10_sample_46 : decode cX10_sample 46 = .ok (.getfield 23, 3) := by decide +kernel
theorem dX10_sample_49 : decode cX10_sample 49 = .ok (.aload_n 0, 1) := by decide +kernel
theorem dX10_sample_50 : decode cX10_sample 50 = .ok (.getfield 125, 3) := by decide +kernel
theorem dX10_sample_53 : decode cX10_sample 53 = .ok (.iload_n 1, 1) := by decide +kernel
theorem dX10_sample_54 : decode cX10_sample 54 = .ok (.iastore, 1) := by decide +kernel
theorem dX10_sample_55 : decode cX10_sample 55 = .ok (.aload_n 0, 1) := by decide +kernel
theorem dX10_sample_56 : decode cX10_sample 56 = .ok (.getfield 26, 3) := by decide +kernel
theorem dX10_sample_59 : decode cX10_sample 59 = .ok (.aload_n 0, 1) := by decide +kernel
theorem dX10_sample_60 : decode cX10_sample 60 = .ok (.getfield 125, 3) := by decide +kernel
theorem dX10_sample_63 : decode cX10_sample 63 = .ok (.iload_n 2, 1) := by decide +kernel
theorem dX10_sample_64 : decode cX10_sample 64 = .ok (.iastore, 1) := by decide +kernel
theorem dX10_sample_65 : decode cX10_sample 65 = .ok (.aload_n 0, 1) := by decide +kernel
theorem dX10_sample_66 : decode cX10_sample 66 = .ok (.dup, 1) := by decide +kernel
theorem dX10_sample_67 : decode cX10_sample 67 = .ok (.getfield 125, 3) := by decide +kernel
theorem dX10_sample_70 : decode cX10_sample 70 = .ok (.iconst 1, 1) := by decide +kernel
theorem dX10_sample_71 : decode cX10_sample 71 = .ok (.iadd, 1) := by decide +kernel
theorem dX10_sample_72 : decode cX10_sample 72 = .ok (.putfield 125, 3) := by decide +kernel
theorem dX10_sample_75 : decode cX10_sample 75 = .ok (.aload_n 0, 1) := by decide +kernel
theorem dX10_sample_76 : decode cX10_sample 76 = .ok (.getfield 125, 3) := by decide +kernel
theorem dX10_sample_79 : decode cX10_sample 79 = .ok (.iconst 1, 1) := by decide +kernel
theorem dX10_sample_80 : decode cX10_sample 80 = .ok (.isub, 1) := by decide +kernel
theorem dX10_sample_81 : decode cX10_sample 81 = .ok (.ireturn, 1) := by decide +kernel
theorem dX10_of_0 : decode cX10_of 0 = .ok (.iload_n 1, 1) := by decide +kernel
theorem dX10_of_1 : decode cX10_of 1 = .ok (.ifCond .lt 20, 3) := by decide +kernel
theorem dX10_of_4 : decode cX10_of 4 = .ok (.iload_n 1, 1) := by decide +kernel
theorem dX10_of_5 : decode cX10_of 5 = .ok (.aload_n 0, 1) := by decide +kernel
theorem dX10_of_6 : decode cX10_of 6 = .ok (.getfield 125, 3) := by decide +kernel
theorem dX10_of_9 : decode cX10_of 9 = .ok (.if_icmp .ge 12, 3) := by decide +kernel
theorem dX10_of_12 : decode cX10_of 12 = .ok (.iload_n 2, 1) := by decide +kernel
theorem dX10_of_13 : decode cX10_of 13 = .ok (.ifCond .lt 8, 3) := by decide +kernel
theorem dX10_of_16 : decode cX10_of 16 = .ok (.iload_n 2, 1) := by decide +kernel
theorem dX10_of_17 : decode cX10_of 17 = .ok (.iconst 1, 1) := by decide +kernel
theorem dX10_of_18 : decode cX10_of 18 = .ok (.if_icmp .le 5, 3) := by decide +kernel
theorem dX10_of_21 : decode cX10_of 21 = .ok (.iconst (-1), 1) := by decide +kernel
theorem dX10_of_22 : decode cX10_of 22 = .ok (.ireturn, 1) := by decide +kernel
theorem dX10_of_23 : decode cX10_of 23 = .ok (.iload_n 2, 1) := by decide +kernel
theorem dX10_of_24 : decode cX10_of 24 = .ok (.ifCond .ne 12, 3) := by decide +kernel
theorem dX10_of_27 : decode cX10_of 27 = .ok (.aload_n 0, 1) := by decide +kernel
theorem dX10_of_28 : decode cX10_of 28 = .ok (.getfield 23, 3) := by decide +kernel
theorem dX10_of_31 : decode cX10_of 31 = .ok (.iload_n 1, 1) := by decide +kernel
theorem dX10_of_32 : decode cX10_of 32 = .ok (.iaload, 1) := by decide +kernel
theorem dX10_of_33 : decode cX10_of 33 = .ok (.goto 9, 3) := by decide +kernel
theorem dX10_of_36 : decode cX10_of 36 = .ok (.aload_n 0, 1) := by decide +kernel
theorem dX10_of_37 : decode cX10_of 37 = .ok (.getfield 26, 3) := by decide +kernel
theorem dX10_of_40 : decode cX10_of 40 = .ok (.iload_n 1, 1) := by decide +kernel
theorem dX10_of_41 : decode cX10_of 41 = .ok (.iaload, 1) := by decide +kernel
theorem dX10_of_42 : decode cX10_of 42 = .ok (.ireturn, 1) := by decide +kernel
theorem dX10_samples_0 : decode cX10_samples 0 = .ok (.aload_n 0, 1) := by decide +kernel
theorem dX10_samples_1 : decode cX10_samples 1 = .ok (.getfield 125, 3) := by decide +kernel
theorem dX10_samples_4 : decode cX10_samples 4 = .ok (.ireturn, 1) := by decide +kernel
theorem dX10_function_0 : decode cX10_function 0 = .ok (.iload_n 1, 1) := by decide +kernel
theorem dX10_function_1 : decode cX10_function 1 = .ok (.iconst 1, 1) := by decide +kernel
theorem dX10_function_2 : decode cX10_function 2 = .ok (.if_icmp .lt 8, 3) := by decide +kernel
theorem dX10_function_5 : decode cX10_function 5 = .ok (.iload_n 1, 1) := by decide +kernel
theorem dX10_function_6 : decode cX10_function 6 = .ok (.iconst 2, 1) := by decide +kernel
theorem dX10_function_7 : decode cX10_function 7 = .ok (.if_icmp .le 6, 3) := by decide +kernel
theorem dX10_function_10 : decode cX10_function 10 = .ok (.bipush (-2), 2) := by decide +kernel
theorem dX10_function_12 : decode cX10_function 12 = .ok (.ireturn, 1) := by decide +kernel
theorem dX10_function_13 : decode cX10_function 13 = .ok (.aload_n 0, 1) := by decide +kernel
theorem dX10_function_14 : decode cX10_function 14 = .ok (.getfield 110, 3) := by decide +kernel
theorem dX10_function_17 : decode cX10_function 17 = .ok (.ifCond .ne 6, 3) := by decide +kernel
theorem dX10_function_20 : decode cX10_function 20 = .ok (.bipush (-3), 2) := by decide +kernel
theorem dX10_function_22 : decode cX10_function 22 = .ok (.ireturn, 1) := by decide +kernel
theorem dX10_function_23 : decode cX10_function 23 = .ok (.aload_n 0, 1) := by decide +kernel
theorem dX10_function_24 : decode cX10_function 24 = .ok (.getfield 128, 3) := by decide +kernel
theorem dX10_function_27 : decode cX10_function 27 = .ok (.iconst 4, 1) := by decide +kernel
theorem dX10_function_28 : decode cX10_function 28 = .ok (.if_icmp .ne 6, 3) := by decide +kernel
theorem dX10_function_31 : decode cX10_function 31 = .ok (.bipush (-4), 2) := by decide +kernel
theorem dX10_function_33 : decode cX10_function 33 = .ok (.ireturn, 1) := by decide +kernel
theorem dX10_function_34 : decode cX10_function 34 = .ok (.aload_n 0, 1) := by decide +kernel
theorem dX10_function_35 : decode cX10_function 35 = .ok (.getfield 29, 3) := by decide +kernel
theorem dX10_function_38 : decode cX10_function 38 = .ok (.aload_n 0, 1) := by decide +kernel
theorem dX10_function_39 : decode cX10_function 39 = .ok (.getfield 128, 3) := by decide +kernel
theorem dX10_function_42 : decode cX10_function 42 = .ok (.iload_n 1, 1) := by decide +kernel
theorem dX10_function_43 : decode cX10_function 43 = .ok (.iastore, 1) := by decide +kernel
theorem dX10_function_44 : decode cX10_function 44 = .ok (.aload_n 0, 1) := by decide +kernel
theorem dX10_function_45 : decode cX10_function 45 = .ok (.dup, 1) := by decide +kernel
theorem dX10_function_46 : decode cX10_function 46 = .ok (.getfield 128, 3) := by decide +kernel
theorem dX10_function_49 : decode cX10_function 49 = .ok (.iconst 1, 1) := by decide +kernel
theorem dX10_function_50 : decode cX10_function 50 = .ok (.iadd, 1) := by decide +kernel
theorem dX10_function_51 : decode cX10_function 51 = .ok (.putfield 128, 3) := by decide +kernel
theorem dX10_function_54 : decode cX10_function 54 = .ok (.aload_n 0, 1) := by decide +kernel
theorem dX10_function_55 : decode cX10_function 55 = .ok (.getfield 128, 3) := by decide +kernel
theorem dX10_function_58 : decode cX10_function 58 = .ok (.iconst 1, 1) := by decide +kernel
theorem dX10_function_59 : decode cX10_function 59 = .ok (.isub, 1) := by decide +kernel
theorem dX10_function_60 : decode cX10_function 60 = .ok (.ireturn, 1) := by decide +kernel
theorem dX10_isFunction_0 : decode cX10_isFunction 0 = .ok (.iload_n 1, 1) := by decide +kernel
theorem dX10_isFunction_1 : decode cX10_isFunction 1 = .ok (.ifCond .lt 15, 3) := by decide +kernel
theorem dX10_isFunction_4 : decode cX10_isFunction 4 = .ok (.iload_n 1, 1) := by decide +kernel
theorem dX10_isFunction_5 : decode cX10_isFunction 5 = .ok (.aload_n 0, 1) := by decide +kernel
theorem dX10_isFunction_6 : decode cX10_isFunction 6 = .ok (.getfield 128, 3) := by decide +kernel
theorem dX10_isFunction_9 : decode cX10_isFunction 9 = .ok (.if_icmp .ge 7, 3) := by decide +kernel
theorem dX10_isFunction_12 : decode cX10_isFunction 12 = .ok (.iconst 1, 1) := by decide +kernel
theorem dX10_isFunction_13 : decode cX10_isFunction 13 = .ok (.goto 4, 3) := by decide +kernel
theorem dX10_isFunction_16 : decode cX10_isFunction 16 = .ok (.iconst 0, 1) := by decide +kernel
theorem dX10_isFunction_17 : decode cX10_isFunction 17 = .ok (.ireturn, 1) := by decide +kernel
theorem dX10_isHandler_0 : decode cX10_isHandler 0 = .ok (.iload_n 1, 1) := by decide +kernel
theorem dX10_isHandler_1 : decode cX10_isHandler 1 = .ok (.ifCond .lt 15, 3) := by decide +kernel
theorem dX10_isHandler_4 : decode cX10_isHandler 4 = .ok (.iload_n 1, 1) := by decide +kernel
theorem dX10_isHandler_5 : decode cX10_isHandler 5 = .ok (.aload_n 0, 1) := by decide +kernel
theorem dX10_isHandler_6 : decode cX10_isHandler 6 = .ok (.getfield 131, 3) := by decide +kernel
theorem dX10_isHandler_9 : decode cX10_isHandler 9 = .ok (.if_icmp .ge 7, 3) := by decide +kernel
theorem dX10_isHandler_12 : decode cX10_isHandler 12 = .ok (.iconst 1, 1) := by decide +kernel
theorem dX10_isHandler_13 : decode cX10_isHandler 13 = .ok (.goto 4, 3) := by decide +kernel
theorem dX10_isHandler_16 : decode cX10_isHandler 16 = .ok (.iconst 0, 1) := by decide +kernel
theorem dX10_isHandler_17 : decode cX10_isHandler 17 = .ok (.ireturn, 1) := by decide +kernel
theorem dX10_handler_0 : decode cX10_handler 0 = .ok (.aload_n 0, 1) := by decide +kernel
theorem dX10_handler_1 : decode cX10_handler 1 = .ok (.iload_n 1, 1) := by decide +kernel
theorem dX10_handler_2 : decode cX10_handler 2 = .ok (.invokevirtual 134, 3) := by decide +kernel
theorem dX10_handler_5 : decode cX10_handler 5 = .ok (.ifCond .eq 13, 3) := by decide +kernel
theorem dX10_handler_8 : decode cX10_handler 8 = .ok (.iload_n 2, 1) := by decide +kernel
theorem dX10_handler_9 : decode cX10_handler 9 = .ok (.ifCond .lt 9, 3) := by decide +kernel
theorem dX10_handler_12 : decode cX10_handler 12 = .ok (.iload_n 2, 1) := by decide +kernel
theorem dX10_handler_13 : decode cX10_handler 13 = .ok (.bipush 7, 2) := by decide +kernel
theorem dX10_handler_15 : decode cX10_handler 15 = .ok (.if_icmp .le 6, 3) := by decide +kernel
theorem dX10_handler_18 : decode cX10_handler 18 = .ok (.bipush (-2), 2) := by decide +kernel
theorem dX10_handler_20 : decode cX10_handler 20 = .ok (.ireturn, 1) := by decide +kernel
theorem dX10_handler_21 : decode cX10_handler 21 = .ok (.aload_n 0, 1) := by decide +kernel
theorem dX10_handler_22 : decode cX10_handler 22 = .ok (.getfield 131, 3) := by decide +kernel
theorem dX10_handler_25 : decode cX10_handler 25 = .ok (.bipush 40, 2) := by decide +kernel
theorem dX10_handler_27 : decode cX10_handler 27 = .ok (.if_icmp .ne 6, 3) := by decide +kernel
theorem dX10_handler_30 : decode cX10_handler 30 = .ok (.bipush (-4), 2) := by decide +kernel
theorem dX10_handler_32 : decode cX10_handler 32 = .ok (.ireturn, 1) := by decide +kernel
theorem dX10_handler_33 : decode cX10_handler 33 = .ok (.aload_n 0, 1) := by decide +kernel
theorem dX10_handler_34 : decode cX10_handler 34 = .ok (.getfield 131, 3) := by decide +kernel
theorem dX10_handler_37 : decode cX10_handler 37 = .ok (.istore 5, 2) := by decide +kernel
theorem dX10_handler_39 : decode cX10_handler 39 = .ok (.aload_n 0, 1) := by decide +kernel
theorem dX10_handler_40 : decode cX10_handler 40 = .ok (.dup, 1) := by decide +kernel
theorem dX10_handler_41 : decode cX10_handler 41 = .ok (.getfield 131, 3) := by decide +kernel
theorem dX10_handler_44 : decode cX10_handler 44 = .ok (.iconst 1, 1) := by decide +kernel
theorem dX10_handler_45 : decode cX10_handler 45 = .ok (.iadd, 1) := by decide +kernel
theorem dX10_handler_46 : decode cX10_handler 46 = .ok (.putfield 131, 3) := by decide +kernel
theorem dX10_handler_49 : decode cX10_handler 49 = .ok (.aload_n 0, 1) := by decide +kernel
theorem dX10_handler_50 : decode cX10_handler 50 = .ok (.getfield 45, 3) := by decide +kernel
theorem dX10_handler_53 : decode cX10_handler 53 = .ok (.iload 5, 2) := by decide +kernel
theorem dX10_handler_55 : decode cX10_handler 55 = .ok (.iload_n 1, 1) := by decide +kernel
theorem dX10_handler_56 : decode cX10_handler 56 = .ok (.iastore, 1) := by decide +kernel
theorem dX10_handler_57 : decode cX10_handler 57 = .ok (.aload_n 0, 1) := by decide +kernel
theorem dX10_handler_58 : decode cX10_handler 58 = .ok (.getfield 48, 3) := by decide +kernel
theorem dX10_handler_61 : decode cX10_handler 61 = .ok (.iload 5, 2) := by decide +kernel
theorem dX10_handler_63 : decode cX10_handler 63 = .ok (.iload_n 2, 1) := by decide +kernel
theorem dX10_handler_64 : decode cX10_handler 64 = .ok (.iastore, 1) := by decide +kernel
theorem dX10_handler_65 : decode cX10_handler 65 = .ok (.aload_n 0, 1) := by decide +kernel
theorem dX10_handler_66 : decode cX10_handler 66 = .ok (.getfield 51, 3) := by decide +kernel
theorem dX10_handler_69 : decode cX10_handler 69 = .ok (.iload 5, 2) := by decide +kernel
theorem dX10_handler_71 : decode cX10_handler 71 = .ok (.iload_n 3, 1) := by decide +kernel
theorem dX10_handler_72 : decode cX10_handler 72 = .ok (.iastore, 1) := by decide +kernel
theorem dX10_handler_73 : decode cX10_handler 73 = .ok (.aload_n 0, 1) := by decide +kernel
theorem dX10_handler_74 : decode cX10_handler 74 = .ok (.getfield 54, 3) := by decide +kernel
theorem dX10_handler_77 : decode cX10_handler 77 = .ok (.iload 5, 2) := by decide +kernel
theorem dX10_handler_79 : decode cX10_handler 79 = .ok (.iload 4, 2) := by decide +kernel
theorem dX10_handler_81 : decode cX10_handler 81 = .ok (.bastore, 1) := by decide +kernel
theorem dX10_handler_82 : decode cX10_handler 82 = .ok (.iconst 0, 1) := by decide +kernel
theorem dX10_handler_83 : decode cX10_handler 83 = .ok (.istore 6, 2) := by decide +kernel
theorem dX10_handler_85 : decode cX10_handler 85 = .ok (.iload 6, 2) := by decide +kernel
theorem dX10_handler_87 : decode cX10_handler 87 = .ok (.iconst 2, 1) := by decide +kernel
theorem dX10_handler_88 : decode cX10_handler 88 = .ok (.if_icmp .ge 50, 3) := by decide +kernel
theorem dX10_handler_91 : decode cX10_handler 91 = .ok (.aload_n 0, 1) := by decide +kernel
theorem dX10_handler_92 : decode cX10_handler 92 = .ok (.getfield 60, 3) := by decide +kernel
theorem dX10_handler_95 : decode cX10_handler 95 = .ok (.iconst 2, 1) := by decide +kernel
theorem dX10_handler_96 : decode cX10_handler 96 = .ok (.iload 5, 2) := by decide +kernel
theorem dX10_handler_98 : decode cX10_handler 98 = .ok (.imul, 1) := by decide +kernel
theorem dX10_handler_99 : decode cX10_handler 99 = .ok (.iload 6, 2) := by decide +kernel
theorem dX10_handler_101 : decode cX10_handler 101 = .ok (.iadd, 1) := by decide +kernel
theorem dX10_handler_102 : decode cX10_handler 102 = .ok (.iconst (-1), 1) := by decide +kernel
theorem dX10_handler_103 : decode cX10_handler 103 = .ok (.iastore, 1) := by decide +kernel
theorem dX10_handler_104 : decode cX10_handler 104 = .ok (.aload_n 0, 1) := by decide +kernel
theorem dX10_handler_105 : decode cX10_handler 105 = .ok (.getfield 63, 3) := by decide +kernel
theorem dX10_handler_108 : decode cX10_handler 108 = .ok (.iconst 2, 1) := by decide +kernel
theorem dX10_handler_109 : decode cX10_handler 109 = .ok (.iload 5, 2) := by decide +kernel
theorem dX10_handler_111 : decode cX10_handler 111 = .ok (.imul, 1) := by decide +kernel
theorem dX10_handler_112 : decode cX10_handler 112 = .ok (.iload 6, 2) := by decide +kernel
theorem dX10_handler_114 : decode cX10_handler 114 = .ok (.iadd, 1) := by decide +kernel
theorem dX10_handler_115 : decode cX10_handler 115 = .ok (.ldc 137, 2) := by decide +kernel
theorem dX10_handler_117 : decode cX10_handler 117 = .ok (.iastore, 1) := by decide +kernel
theorem dX10_handler_118 : decode cX10_handler 118 = .ok (.aload_n 0, 1) := by decide +kernel
theorem dX10_handler_119 : decode cX10_handler 119 = .ok (.getfield 66, 3) := by decide +kernel
theorem dX10_handler_122 : decode cX10_handler 122 = .ok (.iconst 2, 1) := by decide +kernel
theorem dX10_handler_123 : decode cX10_handler 123 = .ok (.iload 5, 2) := by decide +kernel
theorem dX10_handler_125 : decode cX10_handler 125 = .ok (.imul, 1) := by decide +kernel
theorem dX10_handler_126 : decode cX10_handler 126 = .ok (.iload 6, 2) := by decide +kernel
theorem dX10_handler_128 : decode cX10_handler 128 = .ok (.iadd, 1) := by decide +kernel
theorem dX10_handler_129 : decode cX10_handler 129 = .ok (.ldc 138, 2) := by decide +kernel
theorem dX10_handler_131 : decode cX10_handler 131 = .ok (.iastore, 1) := by decide +kernel
theorem dX10_handler_132 : decode cX10_handler 132 = .ok (.iinc 6 1, 3) := by decide +kernel
theorem dX10_handler_135 : decode cX10_handler 135 = .ok (.goto (-50), 3) := by decide +kernel
theorem dX10_handler_138 : decode cX10_handler 138 = .ok (.iload 5, 2) := by decide +kernel
theorem dX10_handler_140 : decode cX10_handler 140 = .ok (.ireturn, 1) := by decide +kernel
theorem dX10_hasPlace_0 : decode cX10_hasPlace 0 = .ok (.aload_n 0, 1) := by decide +kernel
theorem dX10_hasPlace_1 : decode cX10_hasPlace 1 = .ok (.iload_n 1, 1) := by decide +kernel
theorem dX10_hasPlace_2 : decode cX10_hasPlace 2 = .ok (.invokevirtual 139, 3) := by decide +kernel
theorem dX10_hasPlace_5 : decode cX10_hasPlace 5 = .ok (.ifCond .eq 26, 3) := by decide +kernel
theorem dX10_hasPlace_8 : decode cX10_hasPlace 8 = .ok (.iload_n 2, 1) := by decide +kernel
theorem dX10_hasPlace_9 : decode cX10_hasPlace 9 = .ok (.ifCond .lt 22, 3) := by decide +kernel
theorem dX10_hasPlace_12 : decode cX10_hasPlace 12 = .ok (.iload_n 2, 1) := by decide +kernel
theorem dX10_hasPlace_13 : decode cX10_hasPlace 13 = .ok (.aload_n 0, 1) := by decide +kernel
theorem dX10_hasPlace_14 : decode cX10_hasPlace 14 = .ok (.getfield 29, 3) := by decide +kernel
theorem dX10_hasPlace_17 : decode cX10_hasPlace 17 = .ok (.aload_n 0, 1) := by decide +kernel
theorem dX10_hasPlace_18 : decode cX10_hasPlace 18 = .ok (.getfield 45, 3) := by decide +kernel
theorem dX10_hasPlace_21 : decode cX10_hasPlace 21 = .ok (.iload_n 1, 1) := by decide +kernel
theorem dX10_hasPlace_22 : decode cX10_hasPlace 22 = .ok (.iaload, 1) := by decide +kernel
theorem dX10_hasPlace_23 : decode cX10_hasPlace 23 = .ok (.iaload, 1) := by decide +kernel
theorem dX10_hasPlace_24 : decode cX10_hasPlace 24 = .ok (.if_icmp .ge 7, 3) := by decide +kernel
theorem dX10_hasPlace_27 : decode cX10_hasPlace 27 = .ok (.iconst 1, 1) := by decide +kernel
theorem dX10_hasPlace_28 : decode cX10_hasPlace 28 = .ok (.goto 4, 3) := by decide +kernel
theorem dX10_hasPlace_31 : decode cX10_hasPlace 31 = .ok (.iconst 0, 1) := by decide +kernel
theorem dX10_hasPlace_32 : decode cX10_hasPlace 32 = .ok (.ireturn, 1) := by decide +kernel
theorem dX10_place_0 : decode cX10_place 0 = .ok (.aload_n 0, 1) := by decide +kernel
theorem dX10_place_1 : decode cX10_place 1 = .ok (.iload_n 1, 1) := by decide +kernel
theorem dX10_place_2 : decode cX10_place 2 = .ok (.iload_n 2, 1) := by decide +kernel
theorem dX10_place_3 : decode cX10_place 3 = .ok (.invokevirtual 142, 3) := by decide +kernel
theorem dX10_place_6 : decode cX10_place 6 = .ok (.ifCond .eq 14, 3) := by decide +kernel
theorem dX10_place_9 : decode cX10_place 9 = .ok (.iload_n 3, 1) := by decide +kernel
theorem dX10_place_10 : decode cX10_place 10 = .ok (.iconst (-1), 1) := by decide +kernel
theorem dX10_place_11 : decode cX10_place 11 = .ok (.if_icmp .lt 9, 3) := by decide +kernel
theorem dX10_place_14 : decode cX10_place 14 = .ok (.iload_n 3, 1) := by decide +kernel
theorem dX10_place_15 : decode cX10_place 15 = .ok (.bipush 15, 2) := by decide +kernel
theorem dX10_place_17 : decode cX10_place 17 = .ok (.if_icmp .le 6, 3) := by decide +kernel
theorem dX10_place_20 : decode cX10_place 20 = .ok (.bipush (-2), 2) := by decide +kernel
theorem dX10_place_22 : decode cX10_place 22 = .ok (.ireturn, 1) := by decide +kernel
theorem dX10_place_23 : decode cX10_place 23 = .ok (.aload_n 0, 1) := by decide +kernel
theorem dX10_place_24 : decode cX10_place 24 = .ok (.getfield 57, 3) := by decide +kernel
theorem dX10_place_27 : decode cX10_place 27 = .ok (.iload_n 1, 1) := by decide +kernel
theorem dX10_place_28 : decode cX10_place 28 = .ok (.iaload, 1) := by decide +kernel
theorem dX10_place_29 : decode cX10_place 29 = .ok (.ifCond .eq 6, 3) := by decide +kernel
theorem dX10_place_32 : decode cX10_place 32 = .ok (.bipush (-3), 2) := by decide +kernel
theorem dX10_place_34 : decode cX10_place 34 = .ok (.ireturn, 1) := by decide +kernel
theorem dX10_place_35 : decode cX10_place 35 = .ok (.aload_n 0, 1) := by decide +kernel
theorem dX10_place_36 : decode cX10_place 36 = .ok (.getfield 60, 3) := by decide +kernel
theorem dX10_place_39 : decode cX10_place 39 = .ok (.iconst 2, 1) := by decide +kernel
theorem dX10_place_40 : decode cX10_place 40 = .ok (.iload_n 1, 1) := by decide +kernel
theorem dX10_place_41 : decode cX10_place 41 = .ok (.imul, 1) := by decide +kernel
theorem dX10_place_42 : decode cX10_place 42 = .ok (.iload_n 2, 1) := by decide +kernel
theorem dX10_place_43 : decode cX10_place 43 = .ok (.iadd, 1) := by decide +kernel
theorem dX10_place_44 : decode cX10_place 44 = .ok (.iload_n 3, 1) := by decide +kernel
theorem dX10_place_45 : decode cX10_place 45 = .ok (.iastore, 1) := by decide +kernel
theorem dX10_place_46 : decode cX10_place 46 = .ok (.iconst 1, 1) := by decide +kernel
theorem dX10_place_47 : decode cX10_place 47 = .ok (.ireturn, 1) := by decide +kernel
theorem dX10_test_0 : decode cX10_test 0 = .ok (.aload_n 0, 1) := by decide +kernel
theorem dX10_test_1 : decode cX10_test 1 = .ok (.iload_n 1, 1) := by decide +kernel
theorem dX10_test_2 : decode cX10_test 2 = .ok (.iload_n 2, 1) := by decide +kernel
theorem dX10_test_3 : decode cX10_test 3 = .ok (.invokevirtual 142, 3) := by decide +kernel
theorem dX10_test_6 : decode cX10_test 6 = .ok (.ifCond .eq 9, 3) := by decide +kernel
theorem dX10_test_9 : decode cX10_test 9 = .ok (.iload_n 3, 1) := by decide +kernel
theorem dX10_test_10 : decode cX10_test 10 = .ok (.iload 4, 2) := by decide +kernel
theorem dX10_test_12 : decode cX10_test 12 = .ok (.if_icmp .le 6, 3) := by decide +kernel
theorem dX10_test_15 : decode cX10_test 15 = .ok (.bipush (-2), 2) := by decide +kernel
theorem dX10_test_17 : decode cX10_test 17 = .ok (.ireturn, 1) := by decide +kernel
theorem dX10_test_18 : decode cX10_test 18 = .ok (.aload_n 0, 1) := by decide +kernel
theorem dX10_test_19 : decode cX10_test 19 = .ok (.getfield 57, 3) := by decide +kernel
theorem dX10_test_22 : decode cX10_test 22 = .ok (.iload_n 1, 1) := by decide +kernel
theorem dX10_test_23 : decode cX10_test 23 = .ok (.iaload, 1) := by decide +kernel
theorem dX10_test_24 : decode cX10_test 24 = .ok (.ifCond .eq 6, 3) := by decide +kernel
theorem dX10_test_27 : decode cX10_test 27 = .ok (.bipush (-3), 2) := by decide +kernel
theorem dX10_test_29 : decode cX10_test 29 = .ok (.ireturn, 1) := by decide +kernel
theorem dX10_test_30 : decode cX10_test 30 = .ok (.aload_n 0, 1) := by decide +kernel
theorem dX10_test_31 : decode cX10_test 31 = .ok (.getfield 63, 3) := by decide +kernel
theorem dX10_test_34 : decode cX10_test 34 = .ok (.iconst 2, 1) := by decide +kernel
theorem dX10_test_35 : decode cX10_test 35 = .ok (.iload_n 1, 1) := by decide +kernel
theorem dX10_test_36 : decode cX10_test 36 = .ok (.imul, 1) := by decide +kernel
theorem dX10_test_37 : decode cX10_test 37 = .ok (.iload_n 2, 1) := by decide +kernel
theorem dX10_test_38 : decode cX10_test 38 = .ok (.iadd, 1) := by decide +kernel
theorem dX10_test_39 : decode cX10_test 39 = .ok (.iload_n 3, 1) := by decide +kernel
theorem dX10_test_40 : decode cX10_test 40 = .ok (.iastore, 1) := by decide +kernel
theorem dX10_test_41 : decode cX10_test 41 = .ok (.aload_n 0, 1) := by decide +kernel
theorem dX10_test_42 : decode cX10_test 42 = .ok (.getfield 66, 3) := by decide +kernel
theorem dX10_test_45 : decode cX10_test 45 = .ok (.iconst 2, 1) := by decide +kernel
theorem dX10_test_46 : decode cX10_test 46 = .ok (.iload_n 1, 1) := by decide +kernel
theorem dX10_test_47 : decode cX10_test 47 = .ok (.imul, 1) := by decide +kernel
theorem dX10_test_48 : decode cX10_test 48 = .ok (.iload_n 2, 1) := by decide +kernel
theorem dX10_test_49 : decode cX10_test 49 = .ok (.iadd, 1) := by decide +kernel
theorem dX10_test_50 : decode cX10_test 50 = .ok (.iload 4, 2) := by decide +kernel
theorem dX10_test_52 : decode cX10_test 52 = .ok (.iastore, 1) := by decide +kernel
theorem dX10_test_53 : decode cX10_test 53 = .ok (.iconst 1, 1) := by decide +kernel
theorem dX10_test_54 : decode cX10_test 54 = .ok (.ireturn, 1) := by decide +kernel
theorem dX10_isLaid_0 : decode cX10_isLaid 0 = .ok (.aload_n 0, 1) := by decide +kernel
theorem dX10_isLaid_1 : decode cX10_isLaid 1 = .ok (.getfield 45, 3) := by decide +kernel
theorem dX10_isLaid_4 : decode cX10_isLaid 4 = .ok (.iload_n 1, 1) := by decide +kernel
theorem dX10_isLaid_5 : decode cX10_isLaid 5 = .ok (.iaload, 1) := by decide +kernel
theorem dX10_isLaid_6 : decode cX10_isLaid 6 = .ok (.iload_n 2, 1) := by decide +kernel
theorem dX10_isLaid_7 : decode cX10_isLaid 7 = .ok (.if_icmp .ne 17, 3) := by decide +kernel
theorem dX10_isLaid_10 : decode cX10_isLaid 10 = .ok (.aload_n 0, 1) := by decide +kernel
theorem dX10_isLaid_11 : decode cX10_isLaid 11 = .ok (.getfield 57, 3) := by decide +kernel
theorem dX10_isLaid_14 : decode cX10_isLaid 14 = .ok (.iload_n 1, 1) := by decide +kernel
theorem dX10_isLaid_15 : decode cX10_isLaid 15 = .ok (.iaload, 1) := by decide +kernel
theorem dX10_isLaid_16 : decode cX10_isLaid 16 = .ok (.iconst 1, 1) := by decide +kernel
theorem dX10_isLaid_17 : decode cX10_isLaid 17 = .ok (.if_icmp .ne 7, 3) := by decide +kernel
theorem dX10_isLaid_20 : decode cX10_isLaid 20 = .ok (.iconst 1, 1) := by decide +kernel
theorem dX10_isLaid_21 : decode cX10_isLaid 21 = .ok (.goto 4, 3) := by decide +kernel
theorem dX10_isLaid_24 : decode cX10_isLaid 24 = .ok (.iconst 0, 1) := by decide +kernel
theorem dX10_isLaid_25 : decode cX10_isLaid 25 = .ok (.ireturn, 1) := by decide +kernel
theorem dX10_laid_0 : decode cX10_laid 0 = .ok (.iconst 0, 1) := by decide +kernel
theorem dX10_laid_1 : decode cX10_laid 1 = .ok (.istore_n 2, 1) := by decide +kernel
theorem dX10_laid_2 : decode cX10_laid 2 = .ok (.iconst 0, 1) := by decide +kernel
theorem dX10_laid_3 : decode cX10_laid 3 = .ok (.istore_n 3, 1) := by decide +kernel
theorem dX10_laid_4 : decode cX10_laid 4 = .ok (.iload_n 3, 1) := by decide +kernel
theorem dX10_laid_5 : decode cX10_laid 5 = .ok (.aload_n 0, 1) := by decide +kernel
theorem dX10_laid_6 : decode cX10_laid 6 = .ok (.getfield 131, 3) := by decide +kernel
theorem dX10_laid_9 : decode cX10_laid 9 = .ok (.if_icmp .ge 26, 3) := by decide +kernel
theorem dX10_laid_12 : decode cX10_laid 12 = .ok (.iload_n 2, 1) := by decide +kernel
theorem dX10_laid_13 : decode cX10_laid 13 = .ok (.aload_n 0, 1) := by decide +kernel
theorem dX10_laid_14 : decode cX10_laid 14 = .ok (.iload_n 3, 1) := by decide +kernel
theorem dX10_laid_15 : decode cX10_laid 15 = .ok (.iload_n 1, 1) := by decide +kernel
theorem dX10_laid_16 : decode cX10_laid 16 = .ok (.invokevirtual 145, 3) := by decide +kernel
theorem dX10_laid_19 : decode cX10_laid 19 = .ok (.ifCond .eq 7, 3) := by decide +kernel
theorem dX10_laid_22 : decode cX10_laid 22 = .ok (.iconst 1, 1) := by decide +kernel
theorem dX10_laid_23 : decode cX10_laid 23 = .ok (.goto 4, 3) := by decide +kernel
theorem dX10_laid_26 : decode cX10_laid 26 = .ok (.iconst 0, 1) := by decide +kernel
theorem dX10_laid_27 : decode cX10_laid 27 = .ok (.iadd, 1) := by decide +kernel
theorem dX10_laid_28 : decode cX10_laid 28 = .ok (.istore_n 2, 1) := by decide +kernel
theorem dX10_laid_29 : decode cX10_laid 29 = .ok (.iinc 3 1, 3) := by decide +kernel
theorem dX10_laid_32 : decode cX10_laid 32 = .ok (.goto (-28), 3) := by decide +kernel
theorem dX10_laid_35 : decode cX10_laid 35 = .ok (.iload_n 2, 1) := by decide +kernel
theorem dX10_laid_36 : decode cX10_laid 36 = .ok (.ireturn, 1) := by decide +kernel
theorem dX10_areSame_0 : decode cX10_areSame 0 = .ok (.aload_n 0, 1) := by decide +kernel
theorem dX10_areSame_1 : decode cX10_areSame 1 = .ok (.getfield 60, 3) := by decide +kernel
theorem dX10_areSame_4 : decode cX10_areSame 4 = .ok (.iconst 2, 1) := by decide +kernel
theorem dX10_areSame_5 : decode cX10_areSame 5 = .ok (.iload_n 1, 1) := by decide +kernel
theorem dX10_areSame_6 : decode cX10_areSame 6 = .ok (.imul, 1) := by decide +kernel
theorem dX10_areSame_7 : decode cX10_areSame 7 = .ok (.iload_n 3, 1) := by decide +kernel
theorem dX10_areSame_8 : decode cX10_areSame 8 = .ok (.iadd, 1) := by decide +kernel
theorem dX10_areSame_9 : decode cX10_areSame 9 = .ok (.iaload, 1) := by decide +kernel
theorem dX10_areSame_10 : decode cX10_areSame 10 = .ok (.aload_n 0, 1) := by decide +kernel
theorem dX10_areSame_11 : decode cX10_areSame 11 = .ok (.getfield 60, 3) := by decide +kernel
theorem dX10_areSame_14 : decode cX10_areSame 14 = .ok (.iconst 2, 1) := by decide +kernel
theorem dX10_areSame_15 : decode cX10_areSame 15 = .ok (.iload_n 2, 1) := by decide +kernel
theorem dX10_areSame_16 : decode cX10_areSame 16 = .ok (.imul, 1) := by decide +kernel
theorem dX10_areSame_17 : decode cX10_areSame 17 = .ok (.iload_n 3, 1) := by decide +kernel
theorem dX10_areSame_18 : decode cX10_areSame 18 = .ok (.iadd, 1) := by decide +kernel
theorem dX10_areSame_19 : decode cX10_areSame 19 = .ok (.iaload, 1) := by decide +kernel
theorem dX10_areSame_20 : decode cX10_areSame 20 = .ok (.if_icmp .ne 53, 3) := by decide +kernel
theorem dX10_areSame_23 : decode cX10_areSame 23 = .ok (.aload_n 0, 1) := by decide +kernel
theorem dX10_areSame_24 : decode cX10_areSame 24 = .ok (.getfield 63, 3) := by decide +kernel
theorem dX10_areSame_27 : decode cX10_areSame 27 = .ok (.iconst 2, 1) := by decide +kernel
theorem dX10_areSame_28 : decode cX10_areSame 28 = .ok (.iload_n 1, 1) := by decide +kernel
theorem dX10_areSame_29 : decode cX10_areSame 29 = .ok (.imul, 1) := by decide +kernel
theorem dX10_areSame_30 : decode cX10_areSame 30 = .ok (.iload_n 3, 1) := by decide +kernel
theorem dX10_areSame_31 : decode cX10_areSame 31 = .ok (.iadd, 1) := by decide +kernel
theorem dX10_areSame_32 : decode cX10_areSame 32 = .ok (.iaload, 1) := by decide +kernel
theorem dX10_areSame_33 : decode cX10_areSame 33 = .ok (.aload_n 0, 1) := by decide +kernel
theorem dX10_areSame_34 : decode cX10_areSame 34 = .ok (.getfield 63, 3) := by decide +kernel
theorem dX10_areSame_37 : decode cX10_areSame 37 = .ok (.iconst 2, 1) := by decide +kernel
theorem dX10_areSame_38 : decode cX10_areSame 38 = .ok (.iload_n 2, 1) := by decide +kernel
theorem dX10_areSame_39 : decode cX10_areSame 39 = .ok (.imul, 1) := by decide +kernel
theorem dX10_areSame_40 : decode cX10_areSame 40 = .ok (.iload_n 3, 1) := by decide +kernel
theorem dX10_areSame_41 : decode cX10_areSame 41 = .ok (.iadd, 1) := by decide +kernel
theorem dX10_areSame_42 : decode cX10_areSame 42 = .ok (.iaload, 1) := by decide +kernel
theorem dX10_areSame_43 : decode cX10_areSame 43 = .ok (.if_icmp .ne 30, 3) := by decide +kernel
theorem dX10_areSame_46 : decode cX10_areSame 46 = .ok (.aload_n 0, 1) := by decide +kernel
theorem dX10_areSame_47 : decode cX10_areSame 47 = .ok (.getfield 66, 3) := by decide +kernel
theorem dX10_areSame_50 : decode cX10_areSame 50 = .ok (.iconst 2, 1) := by decide +kernel
theorem dX10_areSame_51 : decode cX10_areSame 51 = .ok (.iload_n 1, 1) := by decide +kernel
theorem dX10_areSame_52 : decode cX10_areSame 52 = .ok (.imul, 1) := by decide +kernel
theorem dX10_areSame_53 : decode cX10_areSame 53 = .ok (.iload_n 3, 1) := by decide +kernel
theorem dX10_areSame_54 : decode cX10_areSame 54 = .ok (.iadd, 1) := by decide +kernel
theorem dX10_areSame_55 : decode cX10_areSame 55 = .ok (.iaload, 1) := by decide +kernel
theorem dX10_areSame_56 : decode cX10_areSame 56 = .ok (.aload_n 0, 1) := by decide +kernel
theorem dX10_areSame_57 : decode cX10_areSame 57 = .ok (.getfield 66, 3) := by decide +kernel
theorem dX10_areSame_60 : decode cX10_areSame 60 = .ok (.iconst 2, 1) := by decide +kernel
theorem dX10_areSame_61 : decode cX10_areSame 61 = .ok (.iload_n 2, 1) := by decide +kernel
theorem dX10_areSame_62 : decode cX10_areSame 62 = .ok (.imul, 1) := by decide +kernel
theorem dX10_areSame_63 : decode cX10_areSame 63 = .ok (.iload_n 3, 1) := by decide +kernel
theorem dX10_areSame_64 : decode cX10_areSame 64 = .ok (.iadd, 1) := by decide +kernel
theorem dX10_areSame_65 : decode cX10_areSame 65 = .ok (.iaload, 1) := by decide +kernel
theorem dX10_areSame_66 : decode cX10_areSame 66 = .ok (.if_icmp .ne 7, 3) := by decide +kernel
theorem dX10_areSame_69 : decode cX10_areSame 69 = .ok (.iconst 1, 1) := by decide +kernel
theorem dX10_areSame_70 : decode cX10_areSame 70 = .ok (.goto 4, 3) := by decide +kernel
theorem dX10_areSame_73 : decode cX10_areSame 73 = .ok (.iconst 0, 1) := by decide +kernel
theorem dX10_areSame_74 : decode cX10_areSame 74 = .ok (.ireturn, 1) := by decide +kernel
theorem dX10_isNarrower_0 : decode cX10_isNarrower 0 = .ok (.aload_n 0, 1) := by decide +kernel
theorem dX10_isNarrower_1 : decode cX10_isNarrower 1 = .ok (.getfield 60, 3) := by decide +kernel
theorem dX10_isNarrower_4 : decode cX10_isNarrower 4 = .ok (.iconst 2, 1) := by decide +kernel
theorem dX10_isNarrower_5 : decode cX10_isNarrower 5 = .ok (.iload_n 1, 1) := by decide +kernel
theorem dX10_isNarrower_6 : decode cX10_isNarrower 6 = .ok (.imul, 1) := by decide +kernel
theorem dX10_isNarrower_7 : decode cX10_isNarrower 7 = .ok (.iload_n 3, 1) := by decide +kernel
theorem dX10_isNarrower_8 : decode cX10_isNarrower 8 = .ok (.iadd, 1) := by decide +kernel
theorem dX10_isNarrower_9 : decode cX10_isNarrower 9 = .ok (.iaload, 1) := by decide +kernel
theorem dX10_isNarrower_10 : decode cX10_isNarrower 10 = .ok (.istore 4, 2) := by decide +kernel
theorem dX10_isNarrower_12 : decode cX10_isNarrower 12 = .ok (.aload_n 0, 1) := by decide +kernel
theorem dX10_isNarrower_13 : decode cX10_isNarrower 13 = .ok (.getfield 60, 3) := by decide +kernel
theorem dX10_isNarrower_16 : decode cX10_isNarrower 16 = .ok (.iconst 2, 1) := by decide +kernel
theorem dX10_isNarrower_17 : decode cX10_isNarrower 17 = .ok (.iload_n 2, 1) := by decide +kernel
theorem dX10_isNarrower_18 : decode cX10_isNarrower 18 = .ok (.imul, 1) := by decide +kernel
theorem dX10_isNarrower_19 : decode cX10_isNarrower 19 = .ok (.iload_n 3, 1) := by decide +kernel
theorem dX10_isNarrower_20 : decode cX10_isNarrower 20 = .ok (.iadd, 1) := by decide +kernel
theorem dX10_isNarrower_21 : decode cX10_isNarrower 21 = .ok (.iaload, 1) := by decide +kernel
theorem dX10_isNarrower_22 : decode cX10_isNarrower 22 = .ok (.istore 5, 2) := by decide +kernel
theorem dX10_isNarrower_24 : decode cX10_isNarrower 24 = .ok (.iload 4, 2) := by decide +kernel
theorem dX10_isNarrower_26 : decode cX10_isNarrower 26 = .ok (.iload 5, 2) := by decide +kernel
theorem dX10_isNarrower_28 : decode cX10_isNarrower 28 = .ok (.if_icmp .eq 32, 3) := by decide +kernel
theorem dX10_isNarrower_31 : decode cX10_isNarrower 31 = .ok (.iload 4, 2) := by decide +kernel
theorem dX10_isNarrower_33 : decode cX10_isNarrower 33 = .ok (.iconst (-1), 1) := by decide +kernel
theorem dX10_isNarrower_34 : decode cX10_isNarrower 34 = .ok (.if_icmp .eq 24, 3) := by decide +kernel
theorem dX10_isNarrower_37 : decode cX10_isNarrower 37 = .ok (.iload 5, 2) := by decide +kernel
theorem dX10_isNarrower_39 : decode cX10_isNarrower 39 = .ok (.iconst (-1), 1) := by decide +kernel
theorem dX10_isNarrower_40 : decode cX10_isNarrower 40 = .ok (.if_icmp .eq 14, 3) := by decide +kernel
theorem dX10_isNarrower_43 : decode cX10_isNarrower 43 = .ok (.aload_n 0, 1) := by decide +kernel
theorem dX10_isNarrower_44 : decode cX10_isNarrower 44 = .ok (.iload 4, 2) := by decide +kernel
theorem dX10_isNarrower_46 : decode cX10_isNarrower 46 = .ok (.iload 5, 2) := by decide +kernel
theorem dX10_isNarrower_48 : decode cX10_isNarrower 48 = .ok (.invokevirtual 121, 3) := by decide +kernel
theorem dX10_isNarrower_51 : decode cX10_isNarrower 51 = .ok (.ifCond .eq 7, 3) := by decide +kernel
theorem dX10_isNarrower_54 : decode cX10_isNarrower 54 = .ok (.iconst 1, 1) := by decide +kernel
theorem dX10_isNarrower_55 : decode cX10_isNarrower 55 = .ok (.goto 4, 3) := by decide +kernel
theorem dX10_isNarrower_58 : decode cX10_isNarrower 58 = .ok (.iconst 0, 1) := by decide +kernel
theorem dX10_isNarrower_59 : decode cX10_isNarrower 59 = .ok (.ireturn, 1) := by decide +kernel
theorem dX10_isNarrower_60 : decode cX10_isNarrower 60 = .ok (.aload_n 0, 1) := by decide +kernel
theorem dX10_isNarrower_61 : decode cX10_isNarrower 61 = .ok (.getfield 63, 3) := by decide +kernel
theorem dX10_isNarrower_64 : decode cX10_isNarrower 64 = .ok (.iconst 2, 1) := by decide +kernel
theorem dX10_isNarrower_65 : decode cX10_isNarrower 65 = .ok (.iload_n 1, 1) := by decide +kernel
theorem dX10_isNarrower_66 : decode cX10_isNarrower 66 = .ok (.imul, 1) := by decide +kernel
theorem dX10_isNarrower_67 : decode cX10_isNarrower 67 = .ok (.iload_n 3, 1) := by decide +kernel
theorem dX10_isNarrower_68 : decode cX10_isNarrower 68 = .ok (.iadd, 1) := by decide +kernel
theorem dX10_isNarrower_69 : decode cX10_isNarrower 69 = .ok (.iaload, 1) := by decide +kernel
theorem dX10_isNarrower_70 : decode cX10_isNarrower 70 = .ok (.aload_n 0, 1) := by decide +kernel
theorem dX10_isNarrower_71 : decode cX10_isNarrower 71 = .ok (.getfield 63, 3) := by decide +kernel
theorem dX10_isNarrower_74 : decode cX10_isNarrower 74 = .ok (.iconst 2, 1) := by decide +kernel
theorem dX10_isNarrower_75 : decode cX10_isNarrower 75 = .ok (.iload_n 2, 1) := by decide +kernel
theorem dX10_isNarrower_76 : decode cX10_isNarrower 76 = .ok (.imul, 1) := by decide +kernel
theorem dX10_isNarrower_77 : decode cX10_isNarrower 77 = .ok (.iload_n 3, 1) := by decide +kernel
theorem dX10_isNarrower_78 : decode cX10_isNarrower 78 = .ok (.iadd, 1) := by decide +kernel
theorem dX10_isNarrower_79 : decode cX10_isNarrower 79 = .ok (.iaload, 1) := by decide +kernel
theorem dX10_isNarrower_80 : decode cX10_isNarrower 80 = .ok (.if_icmp .lt 40, 3) := by decide +kernel
theorem dX10_isNarrower_83 : decode cX10_isNarrower 83 = .ok (.aload_n 0, 1) := by decide +kernel
theorem dX10_isNarrower_84 : decode cX10_isNarrower 84 = .ok (.getfield 66, 3) := by decide +kernel
theorem dX10_isNarrower_87 : decode cX10_isNarrower 87 = .ok (.iconst 2, 1) := by decide +kernel
theorem dX10_isNarrower_88 : decode cX10_isNarrower 88 = .ok (.iload_n 1, 1) := by decide +kernel
theorem dX10_isNarrower_89 : decode cX10_isNarrower 89 = .ok (.imul, 1) := by decide +kernel
theorem dX10_isNarrower_90 : decode cX10_isNarrower 90 = .ok (.iload_n 3, 1) := by decide +kernel
theorem dX10_isNarrower_91 : decode cX10_isNarrower 91 = .ok (.iadd, 1) := by decide +kernel
theorem dX10_isNarrower_92 : decode cX10_isNarrower 92 = .ok (.iaload, 1) := by decide +kernel
theorem dX10_isNarrower_93 : decode cX10_isNarrower 93 = .ok (.aload_n 0, 1) := by decide +kernel
theorem dX10_isNarrower_94 : decode cX10_isNarrower 94 = .ok (.getfield 66, 3) := by decide +kernel
theorem dX10_isNarrower_97 : decode cX10_isNarrower 97 = .ok (.iconst 2, 1) := by decide +kernel
theorem dX10_isNarrower_98 : decode cX10_isNarrower 98 = .ok (.iload_n 2, 1) := by decide +kernel
theorem dX10_isNarrower_99 : decode cX10_isNarrower 99 = .ok (.imul, 1) := by decide +kernel
theorem dX10_isNarrower_100 : decode cX10_isNarrower 100 = .ok (.iload_n 3, 1) := by decide +kernel
theorem dX10_isNarrower_101 : decode cX10_isNarrower 101 = .ok (.iadd, 1) := by decide +kernel
theorem dX10_isNarrower_102 : decode cX10_isNarrower 102 = .ok (.iaload, 1) := by decide +kernel
theorem dX10_isNarrower_103 : decode cX10_isNarrower 103 = .ok (.if_icmp .gt 17, 3) := by decide +kernel
theorem dX10_isNarrower_106 : decode cX10_isNarrower 106 = .ok (.aload_n 0, 1) := by decide +kernel
theorem dX10_isNarrower_107 : decode cX10_isNarrower 107 = .ok (.iload_n 1, 1) := by decide +kernel
theorem dX10_isNarrower_108 : decode cX10_isNarrower 108 = .ok (.iload_n 2, 1) := by decide +kernel
theorem dX10_isNarrower_109 : decode cX10_isNarrower 109 = .ok (.iload_n 3, 1) := by decide +kernel
theorem dX10_isNarrower_110 : decode cX10_isNarrower 110 = .ok (.invokevirtual 148, 3) := by decide +kernel
theorem dX10_isNarrower_113 : decode cX10_isNarrower 113 = .ok (.ifCond .ne 7, 3) := by decide +kernel
theorem dX10_isNarrower_116 : decode cX10_isNarrower 116 = .ok (.iconst 1, 1) := by decide +kernel
theorem dX10_isNarrower_117 : decode cX10_isNarrower 117 = .ok (.goto 4, 3) := by decide +kernel
theorem dX10_isNarrower_120 : decode cX10_isNarrower 120 = .ok (.iconst 0, 1) := by decide +kernel
theorem dX10_isNarrower_121 : decode cX10_isNarrower 121 = .ok (.ireturn, 1) := by decide +kernel
theorem dX10_isMore_0 : decode cX10_isMore 0 = .ok (.aload_n 0, 1) := by decide +kernel
theorem dX10_isMore_1 : decode cX10_isMore 1 = .ok (.getfield 45, 3) := by decide +kernel
theorem dX10_isMore_4 : decode cX10_isMore 4 = .ok (.iload_n 1, 1) := by decide +kernel
theorem dX10_isMore_5 : decode cX10_isMore 5 = .ok (.iaload, 1) := by decide +kernel
theorem dX10_isMore_6 : decode cX10_isMore 6 = .ok (.aload_n 0, 1) := by decide +kernel
theorem dX10_isMore_7 : decode cX10_isMore 7 = .ok (.getfield 45, 3) := by decide +kernel
theorem dX10_isMore_10 : decode cX10_isMore 10 = .ok (.iload_n 2, 1) := by decide +kernel
theorem dX10_isMore_11 : decode cX10_isMore 11 = .ok (.iaload, 1) := by decide +kernel
theorem dX10_isMore_12 : decode cX10_isMore 12 = .ok (.if_icmp .ne 7, 3) := by decide +kernel
theorem dX10_isMore_15 : decode cX10_isMore 15 = .ok (.iconst 1, 1) := by decide +kernel
theorem dX10_isMore_16 : decode cX10_isMore 16 = .ok (.goto 4, 3) := by decide +kernel
theorem dX10_isMore_19 : decode cX10_isMore 19 = .ok (.iconst 0, 1) := by decide +kernel
theorem dX10_isMore_20 : decode cX10_isMore 20 = .ok (.istore_n 3, 1) := by decide +kernel
theorem dX10_isMore_21 : decode cX10_isMore 21 = .ok (.iconst 0, 1) := by decide +kernel
theorem dX10_isMore_22 : decode cX10_isMore 22 = .ok (.istore 4, 2) := by decide +kernel
theorem dX10_isMore_24 : decode cX10_isMore 24 = .ok (.iconst 0, 1) := by decide +kernel
theorem dX10_isMore_25 : decode cX10_isMore 25 = .ok (.istore 5, 2) := by decide +kernel
theorem dX10_isMore_27 : decode cX10_isMore 27 = .ok (.iload 5, 2) := by decide +kernel
theorem dX10_isMore_29 : decode cX10_isMore 29 = .ok (.aload_n 0, 1) := by decide +kernel
theorem dX10_isMore_30 : decode cX10_isMore 30 = .ok (.getfield 29, 3) := by decide +kernel
theorem dX10_isMore_33 : decode cX10_isMore 33 = .ok (.aload_n 0, 1) := by decide +kernel
theorem dX10_isMore_34 : decode cX10_isMore 34 = .ok (.getfield 45, 3) := by decide +kernel
theorem dX10_isMore_37 : decode cX10_isMore 37 = .ok (.iload_n 1, 1) := by decide +kernel
theorem dX10_isMore_38 : decode cX10_isMore 38 = .ok (.iaload, 1) := by decide +kernel
theorem dX10_isMore_39 : decode cX10_isMore 39 = .ok (.iaload, 1) := by decide +kernel
theorem dX10_isMore_40 : decode cX10_isMore 40 = .ok (.if_icmp .ge 62, 3) := by decide +kernel
theorem dX10_isMore_43 : decode cX10_isMore 43 = .ok (.aload_n 0, 1) := by decide +kernel
theorem dX10_isMore_44 : decode cX10_isMore 44 = .ok (.iload_n 1, 1) := by decide +kernel
theorem dX10_isMore_45 : decode cX10_isMore 45 = .ok (.iload_n 2, 1) := by decide +kernel
theorem dX10_isMore_46 : decode cX10_isMore 46 = .ok (.iload 5, 2) := by decide +kernel
theorem dX10_isMore_48 : decode cX10_isMore 48 = .ok (.invokevirtual 152, 3) := by decide +kernel
theorem dX10_isMore_51 : decode cX10_isMore 51 = .ok (.istore 6, 2) := by decide +kernel
theorem dX10_isMore_53 : decode cX10_isMore 53 = .ok (.iload 4, 2) := by decide +kernel
theorem dX10_isMore_55 : decode cX10_isMore 55 = .ok (.ifCond .ne 8, 3) := by decide +kernel
theorem dX10_isMore_58 : decode cX10_isMore 58 = .ok (.iload 6, 2) := by decide +kernel
theorem dX10_isMore_60 : decode cX10_isMore 60 = .ok (.ifCond .eq 7, 3) := by decide +kernel
theorem dX10_isMore_63 : decode cX10_isMore 63 = .ok (.iconst 1, 1) := by decide +kernel
theorem dX10_isMore_64 : decode cX10_isMore 64 = .ok (.goto 4, 3) := by decide +kernel
theorem dX10_isMore_67 : decode cX10_isMore 67 = .ok (.iconst 0, 1) := by decide +kernel
theorem dX10_isMore_68 : decode cX10_isMore 68 = .ok (.istore 4, 2) := by decide +kernel
theorem dX10_isMore_70 : decode cX10_isMore 70 = .ok (.iload_n 3, 1) := by decide +kernel
theorem dX10_isMore_71 : decode cX10_isMore 71 = .ok (.ifCond .eq 23, 3) := by decide +kernel
theorem dX10_isMore_74 : decode cX10_isMore 74 = .ok (.iload 6, 2) := by decide +kernel
theorem dX10_isMore_76 : decode cX10_isMore 76 = .ok (.ifCond .ne 14, 3) := by decide +kernel
theorem dX10_isMore_79 : decode cX10_isMore 79 = .ok (.aload_n 0, 1) := by decide +kernel
theorem dX10_isMore_80 : decode cX10_isMore 80 = .ok (.iload_n 1, 1) := by decide +kernel
theorem dX10_isMore_81 : decode cX10_isMore 81 = .ok (.iload_n 2, 1) := by decide +kernel
theorem dX10_isMore_82 : decode cX10_isMore 82 = .ok (.iload 5, 2) := by decide +kernel
theorem dX10_isMore_84 : decode cX10_isMore 84 = .ok (.invokevirtual 148, 3) := by decide +kernel
theorem dX10_isMore_87 : decode cX10_isMore 87 = .ok (.ifCond .eq 7, 3) := by decide +kernel
theorem dX10_isMore_90 : decode cX10_isMore 90 = .ok (.iconst 1, 1) := by decide +kernel
theorem dX10_isMore_91 : decode cX10_isMore 91 = .ok (.goto 4, 3) := by decide +kernel
theorem dX10_isMore_94 : decode cX10_isMore 94 = .ok (.iconst 0, 1) := by decide +kernel
theorem dX10_isMore_95 : decode cX10_isMore 95 = .ok (.istore_n 3, 1) := by decide +kernel
theorem dX10_isMore_96 : decode cX10_isMore 96 = .ok (.iinc 5 1, 3) := by decide +kernel
theorem dX10_isMore_99 : decode cX10_isMore 99 = .ok (.goto (-72), 3) := by decide +kernel
theorem dX10_isMore_102 : decode cX10_isMore 102 = .ok (.iload_n 3, 1) := by decide +kernel
theorem dX10_isMore_103 : decode cX10_isMore 103 = .ok (.ifCond .eq 12, 3) := by decide +kernel
theorem dX10_isMore_106 : decode cX10_isMore 106 = .ok (.iload 4, 2) := by decide +kernel
theorem dX10_isMore_108 : decode cX10_isMore 108 = .ok (.ifCond .eq 7, 3) := by decide +kernel
theorem dX10_isMore_111 : decode cX10_isMore 111 = .ok (.iconst 1, 1) := by decide +kernel
theorem dX10_isMore_112 : decode cX10_isMore 112 = .ok (.goto 4, 3) := by decide +kernel
theorem dX10_isMore_115 : decode cX10_isMore 115 = .ok (.iconst 0, 1) := by decide +kernel
theorem dX10_isMore_116 : decode cX10_isMore 116 = .ok (.ireturn, 1) := by decide +kernel
theorem dX10_lay_0 : decode cX10_lay 0 = .ok (.aload_n 0, 1) := by decide +kernel
theorem dX10_lay_1 : decode cX10_lay 1 = .ok (.iload_n 1, 1) := by decide +kernel
theorem dX10_lay_2 : decode cX10_lay 2 = .ok (.invokevirtual 139, 3) := by decide +kernel
theorem dX10_lay_5 : decode cX10_lay 5 = .ok (.ifCond .ne 6, 3) := by decide +kernel
theorem dX10_lay_8 : decode cX10_lay 8 = .ok (.bipush (-2), 2) := by decide +kernel
theorem dX10_lay_10 : decode cX10_lay 10 = .ok (.ireturn, 1) := by decide +kernel
theorem dX10_lay_11 : decode cX10_lay 11 = .ok (.aload_n 0, 1) := by decide +kernel
theorem dX10_lay_12 : decode cX10_lay 12 = .ok (.getfield 45, 3) := by decide +kernel
theorem dX10_lay_15 : decode cX10_lay 15 = .ok (.iload_n 1, 1) := by decide +kernel
theorem dX10_lay_16 : decode cX10_lay 16 = .ok (.iaload, 1) := by decide +kernel
theorem dX10_lay_17 : decode cX10_lay 17 = .ok (.istore_n 2, 1) := by decide +kernel
theorem dX10_lay_18 : decode cX10_lay 18 = .ok (.aload_n 0, 1) := by decide +kernel
theorem dX10_lay_19 : decode cX10_lay 19 = .ok (.getfield 57, 3) := by decide +kernel
theorem dX10_lay_22 : decode cX10_lay 22 = .ok (.iload_n 1, 1) := by decide +kernel
theorem dX10_lay_23 : decode cX10_lay 23 = .ok (.iaload, 1) := by decide +kernel
theorem dX10_lay_24 : decode cX10_lay 24 = .ok (.ifCond .ne 12, 3) := by decide +kernel
theorem dX10_lay_27 : decode cX10_lay 27 = .ok (.aload_n 0, 1) := by decide +kernel
theorem dX10_lay_28 : decode cX10_lay 28 = .ok (.getfield 32, 3) := by decide +kernel
theorem dX10_lay_31 : decode cX10_lay 31 = .ok (.iload_n 2, 1) := by decide +kernel
theorem dX10_lay_32 : decode cX10_lay 32 = .ok (.baload, 1) := by decide +kernel
theorem dX10_lay_33 : decode cX10_lay 33 = .ok (.ifCond .eq 6, 3) := by decide +kernel
theorem dX10_lay_36 : decode cX10_lay 36 = .ok (.bipush (-3), 2) := by decide +kernel
theorem dX10_lay_38 : decode cX10_lay 38 = .ok (.ireturn, 1) := by decide +kernel
theorem dX10_lay_39 : decode cX10_lay 39 = .ok (.iconst 0, 1) := by decide +kernel
theorem dX10_lay_40 : decode cX10_lay 40 = .ok (.istore_n 3, 1) := by decide +kernel
theorem dX10_lay_41 : decode cX10_lay 41 = .ok (.iload_n 3, 1) := by decide +kernel
theorem dX10_lay_42 : decode cX10_lay 42 = .ok (.aload_n 0, 1) := by decide +kernel
theorem dX10_lay_43 : decode cX10_lay 43 = .ok (.getfield 131, 3) := by decide +kernel
theorem dX10_lay_46 : decode cX10_lay 46 = .ok (.if_icmp .ge 91, 3) := by decide +kernel
theorem dX10_lay_49 : decode cX10_lay 49 = .ok (.aload_n 0, 1) := by decide +kernel
theorem dX10_lay_50 : decode cX10_lay 50 = .ok (.iload_n 3, 1) := by decide +kernel
theorem dX10_lay_51 : decode cX10_lay 51 = .ok (.iload_n 2, 1) := by decide +kernel
theorem dX10_lay_52 : decode cX10_lay 52 = .ok (.invokevirtual 145, 3) := by decide +kernel
theorem dX10_lay_55 : decode cX10_lay 55 = .ok (.ifCond .eq 22, 3) := by decide +kernel
theorem dX10_lay_58 : decode cX10_lay 58 = .ok (.aload_n 0, 1) := by decide +kernel
theorem dX10_lay_59 : decode cX10_lay 59 = .ok (.getfield 54, 3) := by decide +kernel
theorem dX10_lay_62 : decode cX10_lay 62 = .ok (.iload_n 3, 1) := by decide +kernel
theorem dX10_lay_63 : decode cX10_lay 63 = .ok (.baload, 1) := by decide +kernel
theorem dX10_lay_64 : decode cX10_lay 64 = .ok (.aload_n 0, 1) := by decide +kernel
theorem dX10_lay_65 : decode cX10_lay 65 = .ok (.getfield 54, 3) := by decide +kernel
theorem dX10_lay_68 : decode cX10_lay 68 = .ok (.iload_n 1, 1) := by decide +kernel
theorem dX10_lay_69 : decode cX10_lay 69 = .ok (.baload, 1) := by decide +kernel
theorem dX10_lay_70 : decode cX10_lay 70 = .ok (.if_icmp .ne 7, 3) := by decide +kernel
theorem dX10_lay_73 : decode cX10_lay 73 = .ok (.iconst 1, 1) := by decide +kernel
theorem dX10_lay_74 : decode cX10_lay 74 = .ok (.goto 4, 3) := by decide +kernel
theorem dX10_lay_77 : decode cX10_lay 77 = .ok (.iconst 0, 1) := by decide +kernel
theorem dX10_lay_78 : decode cX10_lay 78 = .ok (.istore 4, 2) := by decide +kernel
theorem dX10_lay_80 : decode cX10_lay 80 = .ok (.iconst 0, 1) := by decide +kernel
theorem dX10_lay_81 : decode cX10_lay 81 = .ok (.istore 5, 2) := by decide +kernel
theorem dX10_lay_83 : decode cX10_lay 83 = .ok (.iload 5, 2) := by decide +kernel
theorem dX10_lay_85 : decode cX10_lay 85 = .ok (.aload_n 0, 1) := by decide +kernel
theorem dX10_lay_86 : decode cX10_lay 86 = .ok (.getfield 29, 3) := by decide +kernel
theorem dX10_lay_89 : decode cX10_lay 89 = .ok (.iload_n 2, 1) := by decide +kernel
theorem dX10_lay_90 : decode cX10_lay 90 = .ok (.iaload, 1) := by decide +kernel
theorem dX10_lay_91 : decode cX10_lay 91 = .ok (.if_icmp .ge 32, 3) := by decide +kernel
theorem dX10_lay_94 : decode cX10_lay 94 = .ok (.iload 4, 2) := by decide +kernel
theorem dX10_lay_96 : decode cX10_lay 96 = .ok (.ifCond .eq 18, 3) := by decide +kernel
theorem dX10_lay_99 : decode cX10_lay 99 = .ok (.aload_n 0, 1) := by decide +kernel
theorem dX10_lay_100 : decode cX10_lay 100 = .ok (.iload_n 1, 1) := by decide +kernel
theorem dX10_lay_101 : decode cX10_lay 101 = .ok (.iload_n 3, 1) := by decide +kernel
theorem dX10_lay_102 : decode cX10_lay 102 = .ok (.iload 5, 2) := by decide +kernel
theorem dX10_lay_104 : decode cX10_lay 104 = .ok (.invokevirtual 148, 3) := by decide +kernel
theorem dX10_lay_107 : decode cX10_lay 107 = .ok (.ifCond .eq 7, 3) := by decide +kernel
theorem dX10_lay_110 : decode cX10_lay 110 = .ok (.iconst 1, 1) := by decide +kernel
theorem dX10_lay_111 : decode cX10_lay 111 = .ok (.goto 4, 3) := by decide +kernel
theorem dX10_lay_114 : decode cX10_lay 114 = .ok (.iconst 0, 1) := by decide +kernel
theorem dX10_lay_115 : decode cX10_lay 115 = .ok (.istore 4, 2) := by decide +kernel
theorem dX10_lay_117 : decode cX10_lay 117 = .ok (.iinc 5 1, 3) := by decide +kernel
theorem dX10_lay_120 : decode cX10_lay 120 = .ok (.goto (-37), 3) := by decide +kernel
theorem dX10_lay_123 : decode cX10_lay 123 = .ok (.iload 4, 2) := by decide +kernel
theorem dX10_lay_125 : decode cX10_lay 125 = .ok (.ifCond .eq 6, 3) := by decide +kernel
theorem dX10_lay_128 : decode cX10_lay 128 = .ok (.bipush (-5), 2) := by decide +kernel
theorem dX10_lay_130 : decode cX10_lay 130 = .ok (.ireturn, 1) := by decide +kernel
theorem dX10_lay_131 : decode cX10_lay 131 = .ok (.iinc 3 1, 3) := by decide +kernel
theorem dX10_lay_134 : decode cX10_lay 134 = .ok (.goto (-93), 3) := by decide +kernel
theorem dX10_lay_137 : decode cX10_lay 137 = .ok (.aload_n 0, 1) := by decide +kernel
theorem dX10_lay_138 : decode cX10_lay 138 = .ok (.iload_n 2, 1) := by decide +kernel
theorem dX10_lay_139 : decode cX10_lay 139 = .ok (.invokevirtual 155, 3) := by decide +kernel
theorem dX10_lay_142 : decode cX10_lay 142 = .ok (.bipush 8, 2) := by decide +kernel
theorem dX10_lay_144 : decode cX10_lay 144 = .ok (.if_icmp .ne 6, 3) := by decide +kernel
theorem dX10_lay_147 : decode cX10_lay 147 = .ok (.bipush (-4), 2) := by decide +kernel
theorem dX10_lay_149 : decode cX10_lay 149 = .ok (.ireturn, 1) := by decide +kernel
theorem dX10_lay_150 : decode cX10_lay 150 = .ok (.aload_n 0, 1) := by decide +kernel
theorem dX10_lay_151 : decode cX10_lay 151 = .ok (.getfield 57, 3) := by decide +kernel
theorem dX10_lay_154 : decode cX10_lay 154 = .ok (.iload_n 1, 1) := by decide +kernel
theorem dX10_lay_155 : decode cX10_lay 155 = .ok (.iconst 1, 1) := by decide +kernel
theorem dX10_lay_156 : decode cX10_lay 156 = .ok (.iastore, 1) := by decide +kernel
theorem dX10_lay_157 : decode cX10_lay 157 = .ok (.aload_n 0, 1) := by decide +kernel
theorem dX10_lay_158 : decode cX10_lay 158 = .ok (.getfield 42, 3) := by decide +kernel
theorem dX10_lay_161 : decode cX10_lay 161 = .ok (.iload_n 2, 1) := by decide +kernel
theorem dX10_lay_162 : decode cX10_lay 162 = .ok (.iconst 0, 1) := by decide +kernel
theorem dX10_lay_163 : decode cX10_lay 163 = .ok (.iastore, 1) := by decide +kernel
theorem dX10_lay_164 : decode cX10_lay 164 = .ok (.iconst 1, 1) := by decide +kernel
theorem dX10_lay_165 : decode cX10_lay 165 = .ok (.ireturn, 1) := by decide +kernel
theorem dX10_lift_0 : decode cX10_lift 0 = .ok (.aload_n 0, 1) := by decide +kernel
theorem dX10_lift_1 : decode cX10_lift 1 = .ok (.iload_n 1, 1) := by decide +kernel
theorem dX10_lift_2 : decode cX10_lift 2 = .ok (.invokevirtual 139, 3) := by decide +kernel
theorem dX10_lift_5 : decode cX10_lift 5 = .ok (.ifCond .ne 6, 3) := by decide +kernel
theorem dX10_lift_8 : decode cX10_lift 8 = .ok (.bipush (-2), 2) := by decide +kernel
theorem dX10_lift_10 : decode cX10_lift 10 = .ok (.ireturn, 1) := by decide +kernel
theorem dX10_lift_11 : decode cX10_lift 11 = .ok (.aload_n 0, 1) := by decide +kernel
theorem dX10_lift_12 : decode cX10_lift 12 = .ok (.getfield 57, 3) := by decide +kernel
theorem dX10_lift_15 : decode cX10_lift 15 = .ok (.iload_n 1, 1) := by decide +kernel
theorem dX10_lift_16 : decode cX10_lift 16 = .ok (.iaload, 1) := by decide +kernel
theorem dX10_lift_17 : decode cX10_lift 17 = .ok (.iconst 1, 1) := by decide +kernel
theorem dX10_lift_18 : decode cX10_lift 18 = .ok (.if_icmp .ne 17, 3) := by decide +kernel
theorem dX10_lift_21 : decode cX10_lift 21 = .ok (.aload_n 0, 1) := by decide +kernel
theorem dX10_lift_22 : decode cX10_lift 22 = .ok (.getfield 32, 3) := by decide +kernel
theorem dX10_lift_25 : decode cX10_lift 25 = .ok (.aload_n 0, 1) := by decide +kernel
theorem dX10_lift_26 : decode cX10_lift 26 = .ok (.getfield 45, 3) := by decide +kernel
theorem dX10_lift_29 : decode cX10_lift 29 = .ok (.iload_n 1, 1) := by decide +kernel
theorem dX10_lift_30 : decode cX10_lift 30 = .ok (.iaload, 1) := by decide +kernel
theorem dX10_lift_31 : decode cX10_lift 31 = .ok (.baload, 1) := by decide +kernel
theorem dX10_lift_32 : decode cX10_lift 32 = .ok (.ifCond .eq 6, 3) := by decide +kernel
theorem dX10_lift_35 : decode cX10_lift 35 = .ok (.bipush (-3), 2) := by decide +kernel
theorem dX10_lift_37 : decode cX10_lift 37 = .ok (.ireturn, 1) := by decide +kernel
theorem dX10_lift_38 : decode cX10_lift 38 = .ok (.aload_n 0, 1) := by decide +kernel
theorem dX10_lift_39 : decode cX10_lift 39 = .ok (.getfield 57, 3) := by decide +kernel
theorem dX10_lift_42 : decode cX10_lift 42 = .ok (.iload_n 1, 1) := by decide +kernel
theorem dX10_lift_43 : decode cX10_lift 43 = .ok (.iconst 2, 1) := by decide +kernel
theorem dX10_lift_44 : decode cX10_lift 44 = .ok (.iastore, 1) := by decide +kernel
theorem dX10_lift_45 : decode cX10_lift 45 = .ok (.aload_n 0, 1) := by decide +kernel
theorem dX10_lift_46 : decode cX10_lift 46 = .ok (.getfield 42, 3) := by decide +kernel
theorem dX10_lift_49 : decode cX10_lift 49 = .ok (.aload_n 0, 1) := by decide +kernel
theorem dX10_lift_50 : decode cX10_lift 50 = .ok (.getfield 45, 3) := by decide +kernel
theorem dX10_lift_53 : decode cX10_lift 53 = .ok (.iload_n 1, 1) := by decide +kernel
theorem dX10_lift_54 : decode cX10_lift 54 = .ok (.iaload, 1) := by decide +kernel
theorem dX10_lift_55 : decode cX10_lift 55 = .ok (.iconst 0, 1) := by decide +kernel
theorem dX10_lift_56 : decode cX10_lift 56 = .ok (.iastore, 1) := by decide +kernel
theorem dX10_lift_57 : decode cX10_lift 57 = .ok (.iconst 1, 1) := by decide +kernel
theorem dX10_lift_58 : decode cX10_lift 58 = .ok (.ireturn, 1) := by decide +kernel
theorem dX10_freeze_0 : decode cX10_freeze 0 = .ok (.aload_n 0, 1) := by decide +kernel
theorem dX10_freeze_1 : decode cX10_freeze 1 = .ok (.iload_n 1, 1) := by decide +kernel
theorem dX10_freeze_2 : decode cX10_freeze 2 = .ok (.invokevirtual 134, 3) := by decide +kernel
theorem dX10_freeze_5 : decode cX10_freeze 5 = .ok (.ifCond .ne 6, 3) := by decide +kernel
theorem dX10_freeze_8 : decode cX10_freeze 8 = .ok (.bipush (-2), 2) := by decide +kernel
theorem dX10_freeze_10 : decode cX10_freeze 10 = .ok (.ireturn, 1) := by decide +kernel
theorem dX10_freeze_11 : decode cX10_freeze 11 = .ok (.aload_n 0, 1) := by decide +kernel
theorem dX10_freeze_12 : decode cX10_freeze 12 = .ok (.getfield 32, 3) := by decide +kernel
theorem dX10_freeze_15 : decode cX10_freeze 15 = .ok (.iload_n 1, 1) := by decide +kernel
end
section
theorem dX10_freeze_16 : decode cX10_freeze 16 = .ok (.baload, 1) := by decide +kernel
theorem dX10_freeze_17 : decode cX10_freeze 17 = .ok (.iload_n 2, 1) := by decide +kernel
theorem dX10_freeze_18 : decode cX10_freeze 18 = .ok (.if_icmp .ne 7, 3) := by decide +kernel
theorem dX10_freeze_21 : decode cX10_freeze 21 = .ok (.iconst 0, 1) := by decide +kernel
theorem dX10_freeze_22 : decode cX10_freeze 22 = .ok (.goto 4, 3) := by decide +kernel
theorem dX10_freeze_25 : decode cX10_freeze 25 = .ok (.iconst 1, 1) := by decide +kernel
theorem dX10_freeze_26 : decode cX10_freeze 26 = .ok (.istore_n 3, 1) := by decide +kernel
theorem dX10_freeze_27 : decode cX10_freeze 27 = .ok (.aload_n 0, 1) := by decide +kernel
theorem dX10_freeze_28 : decode cX10_freeze 28 = .ok (.getfield 32, 3) := by decide +kernel
theorem dX10_freeze_31 : decode cX10_freeze 31 = .ok (.iload_n 1, 1) := by decide +kernel
theorem dX10_freeze_32 : decode cX10_freeze 32 = .ok (.iload_n 2, 1) := by decide +kernel
theorem dX10_freeze_33 : decode cX10_freeze 33 = .ok (.bastore, 1) := by decide +kernel
theorem dX10_freeze_34 : decode cX10_freeze 34 = .ok (.iload_n 3, 1) := by decide +kernel
theorem dX10_freeze_35 : decode cX10_freeze 35 = .ok (.ireturn, 1) := by decide +kernel
theorem dX10_about_0 : decode cX10_about 0 = .ok (.aload_n 0, 1) := by decide +kernel
theorem dX10_about_1 : decode cX10_about 1 = .ok (.iload_n 1, 1) := by decide +kernel
theorem dX10_about_2 : decode cX10_about 2 = .ok (.invokevirtual 139, 3) := by decide +kernel
theorem dX10_about_5 : decode cX10_about 5 = .ok (.ifCond .eq 13, 3) := by decide +kernel
theorem dX10_about_8 : decode cX10_about 8 = .ok (.iload_n 2, 1) := by decide +kernel
theorem dX10_about_9 : decode cX10_about 9 = .ok (.ifCond .lt 9, 3) := by decide +kernel
theorem dX10_about_12 : decode cX10_about 12 = .ok (.iload_n 2, 1) := by decide +kernel
theorem dX10_about_13 : decode cX10_about 13 = .ok (.bipush 10, 2) := by decide +kernel
theorem dX10_about_15 : decode cX10_about 15 = .ok (.if_icmp .le 6, 3) := by decide +kernel
theorem dX10_about_18 : decode cX10_about 18 = .ok (.bipush (-2), 2) := by decide +kernel
theorem dX10_about_20 : decode cX10_about 20 = .ok (.ireturn, 1) := by decide +kernel
theorem dX10_about_21 : decode cX10_about 21 = .ok (.iload_n 2, 1) := by decide +kernel
theorem dX10_about_22 : decode cX10_about 22 = .ok (.iconst 5, 1) := by decide +kernel
theorem dX10_about_23 : decode cX10_about 23 = .ok (.isub, 1) := by decide +kernel
theorem dX10_about_24 : decode cX10_about 24 = .ok (.iconst 2, 1) := by decide +kernel
theorem dX10_about_25 : decode cX10_about 25 = .ok (.irem, 1) := by decide +kernel
theorem dX10_about_26 : decode cX10_about 26 = .ok (.istore_n 3, 1) := by decide +kernel
theorem dX10_about_27 : decode cX10_about 27 = .ok (.iload_n 2, 1) := by decide +kernel
theorem dX10_about_28 : decode cX10_about 28 = .ok (.iconst 5, 1) := by decide +kernel
theorem dX10_about_29 : decode cX10_about 29 = .ok (.if_icmp .lt 18, 3) := by decide +kernel
theorem dX10_about_32 : decode cX10_about 32 = .ok (.iload_n 3, 1) := by decide +kernel
theorem dX10_about_33 : decode cX10_about 33 = .ok (.aload_n 0, 1) := by decide +kernel
theorem dX10_about_34 : decode cX10_about 34 = .ok (.getfield 29, 3) := by decide +kernel
theorem dX10_about_37 : decode cX10_about 37 = .ok (.aload_n 0, 1) := by decide +kernel
theorem dX10_about_38 : decode cX10_about 38 = .ok (.getfield 45, 3) := by decide +kernel
theorem dX10_about_41 : decode cX10_about 41 = .ok (.iload_n 1, 1) := by decide +kernel
theorem dX10_about_42 : decode cX10_about 42 = .ok (.iaload, 1) := by decide +kernel
theorem dX10_about_43 : decode cX10_about 43 = .ok (.iaload, 1) := by decide +kernel
theorem dX10_about_44 : decode cX10_about 44 = .ok (.if_icmp .ge 7, 3) := by decide +kernel
theorem dX10_about_47 : decode cX10_about 47 = .ok (.iconst 1, 1) := by decide +kernel
theorem dX10_about_48 : decode cX10_about 48 = .ok (.goto 4, 3) := by decide +kernel
theorem dX10_about_51 : decode cX10_about 51 = .ok (.iconst 0, 1) := by decide +kernel
theorem dX10_about_52 : decode cX10_about 52 = .ok (.istore 4, 2) := by decide +kernel
theorem dX10_about_54 : decode cX10_about 54 = .ok (.iload_n 2, 1) := by decide +kernel
theorem dX10_about_55 : decode cX10_about 55 = .ok (.tableswitch 132 0 8 #[49, 56, 63, 70, 85, 92, 92, 112, 112], 49) := by decide +kernel
theorem dX10_about_104 : decode cX10_about 104 = .ok (.aload_n 0, 1) := by decide +kernel
theorem dX10_about_105 : decode cX10_about 105 = .ok (.getfield 45, 3) := by decide +kernel
theorem dX10_about_108 : decode cX10_about 108 = .ok (.iload_n 1, 1) := by decide +kernel
theorem dX10_about_109 : decode cX10_about 109 = .ok (.iaload, 1) := by decide +kernel
theorem dX10_about_110 : decode cX10_about 110 = .ok (.ireturn, 1) := by decide +kernel
theorem dX10_about_111 : decode cX10_about 111 = .ok (.aload_n 0, 1) := by decide +kernel
theorem dX10_about_112 : decode cX10_about 112 = .ok (.getfield 48, 3) := by decide +kernel
theorem dX10_about_115 : decode cX10_about 115 = .ok (.iload_n 1, 1) := by decide +kernel
theorem dX10_about_116 : decode cX10_about 116 = .ok (.iaload, 1) := by decide +kernel
theorem dX10_about_117 : decode cX10_about 117 = .ok (.ireturn, 1) := by decide +kernel
theorem dX10_about_118 : decode cX10_about 118 = .ok (.aload_n 0, 1) := by decide +kernel
theorem dX10_about_119 : decode cX10_about 119 = .ok (.getfield 51, 3) := by decide +kernel
theorem dX10_about_122 : decode cX10_about 122 = .ok (.iload_n 1, 1) := by decide +kernel
theorem dX10_about_123 : decode cX10_about 123 = .ok (.iaload, 1) := by decide +kernel
theorem dX10_about_124 : decode cX10_about 124 = .ok (.ireturn, 1) := by decide +kernel
theorem dX10_about_125 : decode cX10_about 125 = .ok (.aload_n 0, 1) := by decide +kernel
theorem dX10_about_126 : decode cX10_about 126 = .ok (.getfield 54, 3) := by decide +kernel
theorem dX10_about_129 : decode cX10_about 129 = .ok (.iload_n 1, 1) := by decide +kernel
theorem dX10_about_130 : decode cX10_about 130 = .ok (.baload, 1) := by decide +kernel
theorem dX10_about_131 : decode cX10_about 131 = .ok (.ifCond .eq 7, 3) := by decide +kernel
theorem dX10_about_134 : decode cX10_about 134 = .ok (.iconst 1, 1) := by decide +kernel
theorem dX10_about_135 : decode cX10_about 135 = .ok (.goto 4, 3) := by decide +kernel
theorem dX10_about_138 : decode cX10_about 138 = .ok (.iconst 0, 1) := by decide +kernel
theorem dX10_about_139 : decode cX10_about 139 = .ok (.ireturn, 1) := by decide +kernel
theorem dX10_about_140 : decode cX10_about 140 = .ok (.aload_n 0, 1) := by decide +kernel
theorem dX10_about_141 : decode cX10_about 141 = .ok (.getfield 57, 3) := by decide +kernel
theorem dX10_about_144 : decode cX10_about 144 = .ok (.iload_n 1, 1) := by decide +kernel
theorem dX10_about_145 : decode cX10_about 145 = .ok (.iaload, 1) := by decide +kernel
theorem dX10_about_146 : decode cX10_about 146 = .ok (.ireturn, 1) := by decide +kernel
theorem dX10_about_147 : decode cX10_about 147 = .ok (.iload 4, 2) := by decide +kernel
theorem dX10_about_149 : decode cX10_about 149 = .ok (.ifCond .eq 16, 3) := by decide +kernel
theorem dX10_about_152 : decode cX10_about 152 = .ok (.aload_n 0, 1) := by decide +kernel
theorem dX10_about_153 : decode cX10_about 153 = .ok (.getfield 60, 3) := by decide +kernel
theorem dX10_about_156 : decode cX10_about 156 = .ok (.iconst 2, 1) := by decide +kernel
theorem dX10_about_157 : decode cX10_about 157 = .ok (.iload_n 1, 1) := by decide +kernel
theorem dX10_about_158 : decode cX10_about 158 = .ok (.imul, 1) := by decide +kernel
theorem dX10_about_159 : decode cX10_about 159 = .ok (.iload_n 3, 1) := by decide +kernel
theorem dX10_about_160 : decode cX10_about 160 = .ok (.iadd, 1) := by decide +kernel
theorem dX10_about_161 : decode cX10_about 161 = .ok (.iaload, 1) := by decide +kernel
theorem dX10_about_162 : decode cX10_about 162 = .ok (.goto 4, 3) := by decide +kernel
theorem dX10_about_165 : decode cX10_about 165 = .ok (.iconst 0, 1) := by decide +kernel
theorem dX10_about_166 : decode cX10_about 166 = .ok (.ireturn, 1) := by decide +kernel
theorem dX10_about_167 : decode cX10_about 167 = .ok (.iload 4, 2) := by decide +kernel
theorem dX10_about_169 : decode cX10_about 169 = .ok (.ifCond .eq 16, 3) := by decide +kernel
theorem dX10_about_172 : decode cX10_about 172 = .ok (.aload_n 0, 1) := by decide +kernel
theorem dX10_about_173 : decode cX10_about 173 = .ok (.getfield 63, 3) := by decide +kernel
theorem dX10_about_176 : decode cX10_about 176 = .ok (.iconst 2, 1) := by decide +kernel
theorem dX10_about_177 : decode cX10_about 177 = .ok (.iload_n 1, 1) := by decide +kernel
theorem dX10_about_178 : decode cX10_about 178 = .ok (.imul, 1) := by decide +kernel
theorem dX10_about_179 : decode cX10_about 179 = .ok (.iload_n 3, 1) := by decide +kernel
theorem dX10_about_180 : decode cX10_about 180 = .ok (.iadd, 1) := by decide +kernel
theorem dX10_about_181 : decode cX10_about 181 = .ok (.iaload, 1) := by decide +kernel
theorem dX10_about_182 : decode cX10_about 182 = .ok (.goto 4, 3) := by decide +kernel
theorem dX10_about_185 : decode cX10_about 185 = .ok (.iconst 0, 1) := by decide +kernel
theorem dX10_about_186 : decode cX10_about 186 = .ok (.ireturn, 1) := by decide +kernel
theorem dX10_about_187 : decode cX10_about 187 = .ok (.iload 4, 2) := by decide +kernel
theorem dX10_about_189 : decode cX10_about 189 = .ok (.ifCond .eq 16, 3) := by decide +kernel
theorem dX10_about_192 : decode cX10_about 192 = .ok (.aload_n 0, 1) := by decide +kernel
theorem dX10_about_193 : decode cX10_about 193 = .ok (.getfield 66, 3) := by decide +kernel
theorem dX10_about_196 : decode cX10_about 196 = .ok (.iconst 2, 1) := by decide +kernel
theorem dX10_about_197 : decode cX10_about 197 = .ok (.iload_n 1, 1) := by decide +kernel
theorem dX10_about_198 : decode cX10_about 198 = .ok (.imul, 1) := by decide +kernel
theorem dX10_about_199 : decode cX10_about 199 = .ok (.iload_n 3, 1) := by decide +kernel
theorem dX10_about_200 : decode cX10_about 200 = .ok (.iadd, 1) := by decide +kernel
theorem dX10_about_201 : decode cX10_about 201 = .ok (.iaload, 1) := by decide +kernel
theorem dX10_about_202 : decode cX10_about 202 = .ok (.goto 4, 3) := by decide +kernel
theorem dX10_about_205 : decode cX10_about 205 = .ok (.iconst 0, 1) := by decide +kernel
theorem dX10_about_206 : decode cX10_about 206 = .ok (.ireturn, 1) := by decide +kernel
theorem dX10_dominates_0 : decode cX10_dominates 0 = .ok (.aload_n 0, 1) := by decide +kernel
theorem dX10_dominates_1 : decode cX10_dominates 1 = .ok (.iload_n 1, 1) := by decide +kernel
theorem dX10_dominates_2 : decode cX10_dominates 2 = .ok (.invokevirtual 139, 3) := by decide +kernel
theorem dX10_dominates_5 : decode cX10_dominates 5 = .ok (.ifCond .eq 24, 3) := by decide +kernel
theorem dX10_dominates_8 : decode cX10_dominates 8 = .ok (.aload_n 0, 1) := by decide +kernel
theorem dX10_dominates_9 : decode cX10_dominates 9 = .ok (.iload_n 2, 1) := by decide +kernel
theorem dX10_dominates_10 : decode cX10_dominates 10 = .ok (.invokevirtual 139, 3) := by decide +kernel
theorem dX10_dominates_13 : decode cX10_dominates 13 = .ok (.ifCond .eq 16, 3) := by decide +kernel
theorem dX10_dominates_16 : decode cX10_dominates 16 = .ok (.aload_n 0, 1) := by decide +kernel
theorem dX10_dominates_17 : decode cX10_dominates 17 = .ok (.iload_n 1, 1) := by decide +kernel
theorem dX10_dominates_18 : decode cX10_dominates 18 = .ok (.iload_n 2, 1) := by decide +kernel
theorem dX10_dominates_19 : decode cX10_dominates 19 = .ok (.invokevirtual 159, 3) := by decide +kernel
theorem dX10_dominates_22 : decode cX10_dominates 22 = .ok (.ifCond .eq 7, 3) := by decide +kernel
theorem dX10_dominates_25 : decode cX10_dominates 25 = .ok (.iconst 1, 1) := by decide +kernel
theorem dX10_dominates_26 : decode cX10_dominates 26 = .ok (.goto 4, 3) := by decide +kernel
theorem dX10_dominates_29 : decode cX10_dominates 29 = .ok (.iconst 0, 1) := by decide +kernel
theorem dX10_dominates_30 : decode cX10_dominates 30 = .ok (.ireturn, 1) := by decide +kernel
theorem dX10_inOrder_0 : decode cX10_inOrder 0 = .ok (.iconst 0, 1) := by decide +kernel
theorem dX10_inOrder_1 : decode cX10_inOrder 1 = .ok (.istore_n 3, 1) := by decide +kernel
theorem dX10_inOrder_2 : decode cX10_inOrder 2 = .ok (.iload_n 3, 1) := by decide +kernel
theorem dX10_inOrder_3 : decode cX10_inOrder 3 = .ok (.aload_n 0, 1) := by decide +kernel
theorem dX10_inOrder_4 : decode cX10_inOrder 4 = .ok (.getfield 131, 3) := by decide +kernel
theorem dX10_inOrder_7 : decode cX10_inOrder 7 = .ok (.if_icmp .ge 29, 3) := by decide +kernel
theorem dX10_inOrder_10 : decode cX10_inOrder 10 = .ok (.aload_n 0, 1) := by decide +kernel
theorem dX10_inOrder_11 : decode cX10_inOrder 11 = .ok (.getfield 91, 3) := by decide +kernel
theorem dX10_inOrder_14 : decode cX10_inOrder 14 = .ok (.iload_n 3, 1) := by decide +kernel
theorem dX10_inOrder_15 : decode cX10_inOrder 15 = .ok (.aload_n 0, 1) := by decide +kernel
theorem dX10_inOrder_16 : decode cX10_inOrder 16 = .ok (.iload_n 3, 1) := by decide +kernel
theorem dX10_inOrder_17 : decode cX10_inOrder 17 = .ok (.iload_n 1, 1) := by decide +kernel
theorem dX10_inOrder_18 : decode cX10_inOrder 18 = .ok (.invokevirtual 145, 3) := by decide +kernel
theorem dX10_inOrder_21 : decode cX10_inOrder 21 = .ok (.ifCond .ne 7, 3) := by decide +kernel
theorem dX10_inOrder_24 : decode cX10_inOrder 24 = .ok (.iconst 1, 1) := by decide +kernel
theorem dX10_inOrder_25 : decode cX10_inOrder 25 = .ok (.goto 4, 3) := by decide +kernel
theorem dX10_inOrder_28 : decode cX10_inOrder 28 = .ok (.iconst 0, 1) := by decide +kernel
theorem dX10_inOrder_29 : decode cX10_inOrder 29 = .ok (.bastore, 1) := by decide +kernel
theorem dX10_inOrder_30 : decode cX10_inOrder 30 = .ok (.iinc 3 1, 3) := by decide +kernel
theorem dX10_inOrder_33 : decode cX10_inOrder 33 = .ok (.goto (-31), 3) := by decide +kernel
theorem dX10_inOrder_36 : decode cX10_inOrder 36 = .ok (.iconst (-1), 1) := by decide +kernel
theorem dX10_inOrder_37 : decode cX10_inOrder 37 = .ok (.istore_n 3, 1) := by decide +kernel
theorem dX10_inOrder_38 : decode cX10_inOrder 38 = .ok (.iconst 0, 1) := by decide +kernel
theorem dX10_inOrder_39 : decode cX10_inOrder 39 = .ok (.istore 4, 2) := by decide +kernel
theorem dX10_inOrder_41 : decode cX10_inOrder 41 = .ok (.iload 4, 2) := by decide +kernel
theorem dX10_inOrder_43 : decode cX10_inOrder 43 = .ok (.iload_n 2, 1) := by decide +kernel
theorem dX10_inOrder_44 : decode cX10_inOrder 44 = .ok (.if_icmp .gt 123, 3) := by decide +kernel
theorem dX10_inOrder_47 : decode cX10_inOrder 47 = .ok (.iconst (-1), 1) := by decide +kernel
theorem dX10_inOrder_48 : decode cX10_inOrder 48 = .ok (.istore_n 3, 1) := by decide +kernel
theorem dX10_inOrder_49 : decode cX10_inOrder 49 = .ok (.aload_n 0, 1) := by decide +kernel
theorem dX10_inOrder_50 : decode cX10_inOrder 50 = .ok (.getfield 131, 3) := by decide +kernel
theorem dX10_inOrder_53 : decode cX10_inOrder 53 = .ok (.iconst 1, 1) := by decide +kernel
theorem dX10_inOrder_54 : decode cX10_inOrder 54 = .ok (.isub, 1) := by decide +kernel
theorem dX10_inOrder_55 : decode cX10_inOrder 55 = .ok (.istore 5, 2) := by decide +kernel
theorem dX10_inOrder_57 : decode cX10_inOrder 57 = .ok (.iload 5, 2) := by decide +kernel
theorem dX10_inOrder_59 : decode cX10_inOrder 59 = .ok (.ifCond .lt 89, 3) := by decide +kernel
theorem dX10_inOrder_62 : decode cX10_inOrder 62 = .ok (.aload_n 0, 1) := by decide +kernel
theorem dX10_inOrder_63 : decode cX10_inOrder 63 = .ok (.getfield 91, 3) := by decide +kernel
theorem dX10_inOrder_66 : decode cX10_inOrder 66 = .ok (.iload 5, 2) := by decide +kernel
theorem dX10_inOrder_68 : decode cX10_inOrder 68 = .ok (.baload, 1) := by decide +kernel
theorem dX10_inOrder_69 : decode cX10_inOrder 69 = .ok (.ifCond .ne 7, 3) := by decide +kernel
theorem dX10_inOrder_72 : decode cX10_inOrder 72 = .ok (.iconst 1, 1) := by decide +kernel
theorem dX10_inOrder_73 : decode cX10_inOrder 73 = .ok (.goto 4, 3) := by decide +kernel
theorem dX10_inOrder_76 : decode cX10_inOrder 76 = .ok (.iconst 0, 1) := by decide +kernel
theorem dX10_inOrder_77 : decode cX10_inOrder 77 = .ok (.istore 6, 2) := by decide +kernel
theorem dX10_inOrder_79 : decode cX10_inOrder 79 = .ok (.iconst 0, 1) := by decide +kernel
theorem dX10_inOrder_80 : decode cX10_inOrder 80 = .ok (.istore 7, 2) := by decide +kernel
theorem dX10_inOrder_82 : decode cX10_inOrder 82 = .ok (.iload 7, 2) := by decide +kernel
theorem dX10_inOrder_84 : decode cX10_inOrder 84 = .ok (.aload_n 0, 1) := by decide +kernel
theorem dX10_inOrder_85 : decode cX10_inOrder 85 = .ok (.getfield 131, 3) := by decide +kernel
theorem dX10_inOrder_88 : decode cX10_inOrder 88 = .ok (.if_icmp .ge 42, 3) := by decide +kernel
theorem dX10_inOrder_91 : decode cX10_inOrder 91 = .ok (.iload 6, 2) := by decide +kernel
theorem dX10_inOrder_93 : decode cX10_inOrder 93 = .ok (.ifCond .eq 28, 3) := by decide +kernel
theorem dX10_inOrder_96 : decode cX10_inOrder 96 = .ok (.aload_n 0, 1) := by decide +kernel
theorem dX10_inOrder_97 : decode cX10_inOrder 97 = .ok (.getfield 91, 3) := by decide +kernel
theorem dX10_inOrder_100 : decode cX10_inOrder 100 = .ok (.iload 7, 2) := by decide +kernel
theorem dX10_inOrder_102 : decode cX10_inOrder 102 = .ok (.baload, 1) := by decide +kernel
theorem dX10_inOrder_103 : decode cX10_inOrder 103 = .ok (.ifCond .ne 14, 3) := by decide +kernel
theorem dX10_inOrder_106 : decode cX10_inOrder 106 = .ok (.aload_n 0, 1) := by decide +kernel
theorem dX10_inOrder_107 : decode cX10_inOrder 107 = .ok (.iload 7, 2) := by decide +kernel
theorem dX10_inOrder_109 : decode cX10_inOrder 109 = .ok (.iload 5, 2) := by decide +kernel
theorem dX10_inOrder_111 : decode cX10_inOrder 111 = .ok (.invokevirtual 159, 3) := by decide +kernel
theorem dX10_inOrder_114 : decode cX10_inOrder 114 = .ok (.ifCond .ne 7, 3) := by decide +kernel
theorem dX10_inOrder_117 : decode cX10_inOrder 117 = .ok (.iconst 1, 1) := by decide +kernel
theorem dX10_inOrder_118 : decode cX10_inOrder 118 = .ok (.goto 4, 3) := by decide +kernel
theorem dX10_inOrder_121 : decode cX10_inOrder 121 = .ok (.iconst 0, 1) := by decide +kernel
theorem dX10_inOrder_122 : decode cX10_inOrder 122 = .ok (.istore 6, 2) := by decide +kernel
theorem dX10_inOrder_124 : decode cX10_inOrder 124 = .ok (.iinc 7 1, 3) := by decide +kernel
theorem dX10_inOrder_127 : decode cX10_inOrder 127 = .ok (.goto (-45), 3) := by decide +kernel
theorem dX10_inOrder_130 : decode cX10_inOrder 130 = .ok (.iload 6, 2) := by decide +kernel
theorem dX10_inOrder_132 : decode cX10_inOrder 132 = .ok (.ifCond .eq 8, 3) := by decide +kernel
theorem dX10_inOrder_135 : decode cX10_inOrder 135 = .ok (.iload 5, 2) := by decide +kernel
theorem dX10_inOrder_137 : decode cX10_inOrder 137 = .ok (.goto 4, 3) := by decide +kernel
theorem dX10_inOrder_140 : decode cX10_inOrder 140 = .ok (.iload_n 3, 1) := by decide +kernel
theorem dX10_inOrder_141 : decode cX10_inOrder 141 = .ok (.istore_n 3, 1) := by decide +kernel
theorem dX10_inOrder_142 : decode cX10_inOrder 142 = .ok (.iinc 5 (-1), 3) := by decide +kernel
theorem dX10_inOrder_145 : decode cX10_inOrder 145 = .ok (.goto (-88), 3) := by decide +kernel
theorem dX10_inOrder_148 : decode cX10_inOrder 148 = .ok (.iload_n 3, 1) := by decide +kernel
theorem dX10_inOrder_149 : decode cX10_inOrder 149 = .ok (.ifCond .ge 5, 3) := by decide +kernel
theorem dX10_inOrder_152 : decode cX10_inOrder 152 = .ok (.iconst (-1), 1) := by decide +kernel
theorem dX10_inOrder_153 : decode cX10_inOrder 153 = .ok (.ireturn, 1) := by decide +kernel
theorem dX10_inOrder_154 : decode cX10_inOrder 154 = .ok (.aload_n 0, 1) := by decide +kernel
theorem dX10_inOrder_155 : decode cX10_inOrder 155 = .ok (.getfield 91, 3) := by decide +kernel
theorem dX10_inOrder_158 : decode cX10_inOrder 158 = .ok (.iload_n 3, 1) := by decide +kernel
theorem dX10_inOrder_159 : decode cX10_inOrder 159 = .ok (.iconst 1, 1) := by decide +kernel
theorem dX10_inOrder_160 : decode cX10_inOrder 160 = .ok (.bastore, 1) := by decide +kernel
theorem dX10_inOrder_161 : decode cX10_inOrder 161 = .ok (.iinc 4 1, 3) := by decide +kernel
theorem dX10_inOrder_164 : decode cX10_inOrder 164 = .ok (.goto (-123), 3) := by decide +kernel
theorem dX10_inOrder_167 : decode cX10_inOrder 167 = .ok (.iload_n 3, 1) := by decide +kernel
theorem dX10_inOrder_168 : decode cX10_inOrder 168 = .ok (.ireturn, 1) := by decide +kernel
theorem dX10_order_0 : decode cX10_order 0 = .ok (.aload_n 0, 1) := by decide +kernel
theorem dX10_order_1 : decode cX10_order 1 = .ok (.iload_n 1, 1) := by decide +kernel
theorem dX10_order_2 : decode cX10_order 2 = .ok (.invokevirtual 134, 3) := by decide +kernel
theorem dX10_order_5 : decode cX10_order 5 = .ok (.ifCond .eq 25, 3) := by decide +kernel
theorem dX10_order_8 : decode cX10_order 8 = .ok (.iload_n 2, 1) := by decide +kernel
theorem dX10_order_9 : decode cX10_order 9 = .ok (.ifCond .lt 21, 3) := by decide +kernel
theorem dX10_order_12 : decode cX10_order 12 = .ok (.iload_n 2, 1) := by decide +kernel
theorem dX10_order_13 : decode cX10_order 13 = .ok (.aload_n 0, 1) := by decide +kernel
theorem dX10_order_14 : decode cX10_order 14 = .ok (.iload_n 1, 1) := by decide +kernel
theorem dX10_order_15 : decode cX10_order 15 = .ok (.invokevirtual 155, 3) := by decide +kernel
theorem dX10_order_18 : decode cX10_order 18 = .ok (.if_icmp .ge 12, 3) := by decide +kernel
theorem dX10_order_21 : decode cX10_order 21 = .ok (.aload_n 0, 1) := by decide +kernel
theorem dX10_order_22 : decode cX10_order 22 = .ok (.iload_n 1, 1) := by decide +kernel
theorem dX10_order_23 : decode cX10_order 23 = .ok (.iload_n 2, 1) := by decide +kernel
theorem dX10_order_24 : decode cX10_order 24 = .ok (.invokevirtual 162, 3) := by decide +kernel
theorem dX10_order_27 : decode cX10_order 27 = .ok (.goto 4, 3) := by decide +kernel
theorem dX10_order_30 : decode cX10_order 30 = .ok (.iconst (-1), 1) := by decide +kernel
theorem dX10_order_31 : decode cX10_order 31 = .ok (.ireturn, 1) := by decide +kernel
theorem dX10_takesAt_0 : decode cX10_takesAt 0 = .ok (.aload_n 0, 1) := by decide +kernel
theorem dX10_takesAt_1 : decode cX10_takesAt 1 = .ok (.getfield 60, 3) := by decide +kernel
theorem dX10_takesAt_4 : decode cX10_takesAt 4 = .ok (.iconst 2, 1) := by decide +kernel
theorem dX10_takesAt_5 : decode cX10_takesAt 5 = .ok (.iload_n 1, 1) := by decide +kernel
theorem dX10_takesAt_6 : decode cX10_takesAt 6 = .ok (.imul, 1) := by decide +kernel
theorem dX10_takesAt_7 : decode cX10_takesAt 7 = .ok (.iload_n 2, 1) := by decide +kernel
theorem dX10_takesAt_8 : decode cX10_takesAt 8 = .ok (.iadd, 1) := by decide +kernel
theorem dX10_takesAt_9 : decode cX10_takesAt 9 = .ok (.iaload, 1) := by decide +kernel
theorem dX10_takesAt_10 : decode cX10_takesAt 10 = .ok (.istore_n 3, 1) := by decide +kernel
theorem dX10_takesAt_11 : decode cX10_takesAt 11 = .ok (.iload_n 3, 1) := by decide +kernel
theorem dX10_takesAt_12 : decode cX10_takesAt 12 = .ok (.iconst (-1), 1) := by decide +kernel
theorem dX10_takesAt_13 : decode cX10_takesAt 13 = .ok (.if_icmp .eq 17, 3) := by decide +kernel
theorem dX10_takesAt_16 : decode cX10_takesAt 16 = .ok (.aload_n 0, 1) := by decide +kernel
theorem dX10_takesAt_17 : decode cX10_takesAt 17 = .ok (.aload_n 0, 1) := by decide +kernel
theorem dX10_takesAt_18 : decode cX10_takesAt 18 = .ok (.getfield 82, 3) := by decide +kernel
theorem dX10_takesAt_21 : decode cX10_takesAt 21 = .ok (.iload_n 2, 1) := by decide +kernel
theorem dX10_takesAt_22 : decode cX10_takesAt 22 = .ok (.iaload, 1) := by decide +kernel
theorem dX10_takesAt_23 : decode cX10_takesAt 23 = .ok (.iload_n 3, 1) := by decide +kernel
theorem dX10_takesAt_24 : decode cX10_takesAt 24 = .ok (.invokevirtual 121, 3) := by decide +kernel
theorem dX10_takesAt_27 : decode cX10_takesAt 27 = .ok (.ifCond .eq 7, 3) := by decide +kernel
theorem dX10_takesAt_30 : decode cX10_takesAt 30 = .ok (.iconst 1, 1) := by decide +kernel
theorem dX10_takesAt_31 : decode cX10_takesAt 31 = .ok (.goto 4, 3) := by decide +kernel
theorem dX10_takesAt_34 : decode cX10_takesAt 34 = .ok (.iconst 0, 1) := by decide +kernel
theorem dX10_takesAt_35 : decode cX10_takesAt 35 = .ok (.istore 4, 2) := by decide +kernel
theorem dX10_takesAt_37 : decode cX10_takesAt 37 = .ok (.iload 4, 2) := by decide +kernel
theorem dX10_takesAt_39 : decode cX10_takesAt 39 = .ok (.ifCond .eq 49, 3) := by decide +kernel
theorem dX10_takesAt_42 : decode cX10_takesAt 42 = .ok (.aload_n 0, 1) := by decide +kernel
theorem dX10_takesAt_43 : decode cX10_takesAt 43 = .ok (.getfield 85, 3) := by decide +kernel
theorem dX10_takesAt_46 : decode cX10_takesAt 46 = .ok (.iload_n 2, 1) := by decide +kernel
theorem dX10_takesAt_47 : decode cX10_takesAt 47 = .ok (.laload, 1) := by decide +kernel
theorem dX10_takesAt_48 : decode cX10_takesAt 48 = .ok (.aload_n 0, 1) := by decide +kernel
theorem dX10_takesAt_49 : decode cX10_takesAt 49 = .ok (.getfield 63, 3) := by decide +kernel
theorem dX10_takesAt_52 : decode cX10_takesAt 52 = .ok (.iconst 2, 1) := by decide +kernel
theorem dX10_takesAt_53 : decode cX10_takesAt 53 = .ok (.iload_n 1, 1) := by decide +kernel
theorem dX10_takesAt_54 : decode cX10_takesAt 54 = .ok (.imul, 1) := by decide +kernel
theorem dX10_takesAt_55 : decode cX10_takesAt 55 = .ok (.iload_n 2, 1) := by decide +kernel
theorem dX10_takesAt_56 : decode cX10_takesAt 56 = .ok (.iadd, 1) := by decide +kernel
theorem dX10_takesAt_57 : decode cX10_takesAt 57 = .ok (.iaload, 1) := by decide +kernel
theorem dX10_takesAt_58 : decode cX10_takesAt 58 = .ok (.i2l, 1) := by decide +kernel
theorem dX10_takesAt_59 : decode cX10_takesAt 59 = .ok (.lcmp, 1) := by decide +kernel
theorem dX10_takesAt_60 : decode cX10_takesAt 60 = .ok (.ifCond .lt 28, 3) := by decide +kernel
theorem dX10_takesAt_63 : decode cX10_takesAt 63 = .ok (.aload_n 0, 1) := by decide +kernel
theorem dX10_takesAt_64 : decode cX10_takesAt 64 = .ok (.getfield 85, 3) := by decide +kernel
theorem dX10_takesAt_67 : decode cX10_takesAt 67 = .ok (.iload_n 2, 1) := by decide +kernel
theorem dX10_takesAt_68 : decode cX10_takesAt 68 = .ok (.laload, 1) := by decide +kernel
theorem dX10_takesAt_69 : decode cX10_takesAt 69 = .ok (.aload_n 0, 1) := by decide +kernel
theorem dX10_takesAt_70 : decode cX10_takesAt 70 = .ok (.getfield 66, 3) := by decide +kernel
theorem dX10_takesAt_73 : decode cX10_takesAt 73 = .ok (.iconst 2, 1) := by decide +kernel
theorem dX10_takesAt_74 : decode cX10_takesAt 74 = .ok (.iload_n 1, 1) := by decide +kernel
theorem dX10_takesAt_75 : decode cX10_takesAt 75 = .ok (.imul, 1) := by decide +kernel
theorem dX10_takesAt_76 : decode cX10_takesAt 76 = .ok (.iload_n 2, 1) := by decide +kernel
theorem dX10_takesAt_77 : decode cX10_takesAt 77 = .ok (.iadd, 1) := by decide +kernel
theorem dX10_takesAt_78 : decode cX10_takesAt 78 = .ok (.iaload, 1) := by decide +kernel
theorem dX10_takesAt_79 : decode cX10_takesAt 79 = .ok (.i2l, 1) := by decide +kernel
theorem dX10_takesAt_80 : decode cX10_takesAt 80 = .ok (.lcmp, 1) := by decide +kernel
theorem dX10_takesAt_81 : decode cX10_takesAt 81 = .ok (.ifCond .gt 7, 3) := by decide +kernel
theorem dX10_takesAt_84 : decode cX10_takesAt 84 = .ok (.iconst 1, 1) := by decide +kernel
theorem dX10_takesAt_85 : decode cX10_takesAt 85 = .ok (.goto 4, 3) := by decide +kernel
theorem dX10_takesAt_88 : decode cX10_takesAt 88 = .ok (.iconst 0, 1) := by decide +kernel
theorem dX10_takesAt_89 : decode cX10_takesAt 89 = .ok (.ireturn, 1) := by decide +kernel
theorem dX10_takes_0 : decode cX10_takes 0 = .ok (.iconst 1, 1) := by decide +kernel
theorem dX10_takes_1 : decode cX10_takes 1 = .ok (.istore_n 2, 1) := by decide +kernel
theorem dX10_takes_2 : decode cX10_takes 2 = .ok (.iconst 0, 1) := by decide +kernel
theorem dX10_takes_3 : decode cX10_takes 3 = .ok (.istore_n 3, 1) := by decide +kernel
theorem dX10_takes_4 : decode cX10_takes 4 = .ok (.iload_n 3, 1) := by decide +kernel
theorem dX10_takes_5 : decode cX10_takes 5 = .ok (.aload_n 0, 1) := by decide +kernel
theorem dX10_takes_6 : decode cX10_takes 6 = .ok (.getfield 29, 3) := by decide +kernel
theorem dX10_takes_9 : decode cX10_takes 9 = .ok (.aload_n 0, 1) := by decide +kernel
theorem dX10_takes_10 : decode cX10_takes 10 = .ok (.getfield 45, 3) := by decide +kernel
theorem dX10_takes_13 : decode cX10_takes 13 = .ok (.iload_n 1, 1) := by decide +kernel
theorem dX10_takes_14 : decode cX10_takes 14 = .ok (.iaload, 1) := by decide +kernel
theorem dX10_takes_15 : decode cX10_takes 15 = .ok (.iaload, 1) := by decide +kernel
theorem dX10_takes_16 : decode cX10_takes 16 = .ok (.if_icmp .ge 28, 3) := by decide +kernel
theorem dX10_takes_19 : decode cX10_takes 19 = .ok (.iload_n 2, 1) := by decide +kernel
theorem dX10_takes_20 : decode cX10_takes 20 = .ok (.ifCond .eq 16, 3) := by decide +kernel
theorem dX10_takes_23 : decode cX10_takes 23 = .ok (.aload_n 0, 1) := by decide +kernel
theorem dX10_takes_24 : decode cX10_takes 24 = .ok (.iload_n 1, 1) := by decide +kernel
theorem dX10_takes_25 : decode cX10_takes 25 = .ok (.iload_n 3, 1) := by decide +kernel
theorem dX10_takes_26 : decode cX10_takes 26 = .ok (.invokevirtual 165, 3) := by decide +kernel
theorem dX10_takes_29 : decode cX10_takes 29 = .ok (.ifCond .eq 7, 3) := by decide +kernel
theorem dX10_takes_32 : decode cX10_takes 32 = .ok (.iconst 1, 1) := by decide +kernel
theorem dX10_takes_33 : decode cX10_takes 33 = .ok (.goto 4, 3) := by decide +kernel
theorem dX10_takes_36 : decode cX10_takes 36 = .ok (.iconst 0, 1) := by decide +kernel
theorem dX10_takes_37 : decode cX10_takes 37 = .ok (.istore_n 2, 1) := by decide +kernel
theorem dX10_takes_38 : decode cX10_takes 38 = .ok (.iinc 3 1, 3) := by decide +kernel
theorem dX10_takes_41 : decode cX10_takes 41 = .ok (.goto (-37), 3) := by decide +kernel
theorem dX10_takes_44 : decode cX10_takes 44 = .ok (.iload_n 2, 1) := by decide +kernel
theorem dX10_takes_45 : decode cX10_takes 45 = .ok (.ireturn, 1) := by decide +kernel
theorem dX10_isOffered_0 : decode cX10_isOffered 0 = .ok (.aload_n 0, 1) := by decide +kernel
theorem dX10_isOffered_1 : decode cX10_isOffered 1 = .ok (.iload_n 1, 1) := by decide +kernel
theorem dX10_isOffered_2 : decode cX10_isOffered 2 = .ok (.iload_n 2, 1) := by decide +kernel
theorem dX10_isOffered_3 : decode cX10_isOffered 3 = .ok (.invokevirtual 145, 3) := by decide +kernel
theorem dX10_isOffered_6 : decode cX10_isOffered 6 = .ok (.ifCond .eq 37, 3) := by decide +kernel
theorem dX10_isOffered_9 : decode cX10_isOffered 9 = .ok (.aload_n 0, 1) := by decide +kernel
theorem dX10_isOffered_10 : decode cX10_isOffered 10 = .ok (.getfield 54, 3) := by decide +kernel
theorem dX10_isOffered_13 : decode cX10_isOffered 13 = .ok (.iload_n 1, 1) := by decide +kernel
theorem dX10_isOffered_14 : decode cX10_isOffered 14 = .ok (.baload, 1) := by decide +kernel
theorem dX10_isOffered_15 : decode cX10_isOffered 15 = .ok (.ifCond .ne 28, 3) := by decide +kernel
theorem dX10_isOffered_18 : decode cX10_isOffered 18 = .ok (.aload_n 0, 1) := by decide +kernel
theorem dX10_isOffered_19 : decode cX10_isOffered 19 = .ok (.iload_n 1, 1) := by decide +kernel
theorem dX10_isOffered_20 : decode cX10_isOffered 20 = .ok (.invokevirtual 168, 3) := by decide +kernel
theorem dX10_isOffered_23 : decode cX10_isOffered 23 = .ok (.ifCond .eq 20, 3) := by decide +kernel
theorem dX10_isOffered_26 : decode cX10_isOffered 26 = .ok (.iload_n 3, 1) := by decide +kernel
theorem dX10_isOffered_27 : decode cX10_isOffered 27 = .ok (.ifCond .lt 12, 3) := by decide +kernel
theorem dX10_isOffered_30 : decode cX10_isOffered 30 = .ok (.aload_n 0, 1) := by decide +kernel
theorem dX10_isOffered_31 : decode cX10_isOffered 31 = .ok (.iload_n 3, 1) := by decide +kernel
theorem dX10_isOffered_32 : decode cX10_isOffered 32 = .ok (.iload_n 1, 1) := by decide +kernel
theorem dX10_isOffered_33 : decode cX10_isOffered 33 = .ok (.invokevirtual 159, 3) := by decide +kernel
theorem dX10_isOffered_36 : decode cX10_isOffered 36 = .ok (.ifCond .eq 7, 3) := by decide +kernel
theorem dX10_isOffered_39 : decode cX10_isOffered 39 = .ok (.iconst 1, 1) := by decide +kernel
theorem dX10_isOffered_40 : decode cX10_isOffered 40 = .ok (.goto 4, 3) := by decide +kernel
theorem dX10_isOffered_43 : decode cX10_isOffered 43 = .ok (.iconst 0, 1) := by decide +kernel
theorem dX10_isOffered_44 : decode cX10_isOffered 44 = .ok (.ireturn, 1) := by decide +kernel
theorem dX10_offered_0 : decode cX10_offered 0 = .ok (.iconst 0, 1) := by decide +kernel
theorem dX10_offered_1 : decode cX10_offered 1 = .ok (.istore_n 3, 1) := by decide +kernel
theorem dX10_offered_2 : decode cX10_offered 2 = .ok (.iconst 0, 1) := by decide +kernel
theorem dX10_offered_3 : decode cX10_offered 3 = .ok (.istore 4, 2) := by decide +kernel
theorem dX10_offered_5 : decode cX10_offered 5 = .ok (.iload 4, 2) := by decide +kernel
theorem dX10_offered_7 : decode cX10_offered 7 = .ok (.aload_n 0, 1) := by decide +kernel
theorem dX10_offered_8 : decode cX10_offered 8 = .ok (.getfield 131, 3) := by decide +kernel
theorem dX10_offered_11 : decode cX10_offered 11 = .ok (.if_icmp .ge 28, 3) := by decide +kernel
theorem dX10_offered_14 : decode cX10_offered 14 = .ok (.iload_n 3, 1) := by decide +kernel
theorem dX10_offered_15 : decode cX10_offered 15 = .ok (.aload_n 0, 1) := by decide +kernel
theorem dX10_offered_16 : decode cX10_offered 16 = .ok (.iload 4, 2) := by decide +kernel
theorem dX10_offered_18 : decode cX10_offered 18 = .ok (.iload_n 1, 1) := by decide +kernel
theorem dX10_offered_19 : decode cX10_offered 19 = .ok (.iload_n 2, 1) := by decide +kernel
theorem dX10_offered_20 : decode cX10_offered 20 = .ok (.invokevirtual 171, 3) := by decide +kernel
theorem dX10_offered_23 : decode cX10_offered 23 = .ok (.ifCond .eq 7, 3) := by decide +kernel
theorem dX10_offered_26 : decode cX10_offered 26 = .ok (.iconst 1, 1) := by decide +kernel
theorem dX10_offered_27 : decode cX10_offered 27 = .ok (.goto 4, 3) := by decide +kernel
theorem dX10_offered_30 : decode cX10_offered 30 = .ok (.iconst 0, 1) := by decide +kernel
theorem dX10_offered_31 : decode cX10_offered 31 = .ok (.iadd, 1) := by decide +kernel
theorem dX10_offered_32 : decode cX10_offered 32 = .ok (.istore_n 3, 1) := by decide +kernel
theorem dX10_offered_33 : decode cX10_offered 33 = .ok (.iinc 4 1, 3) := by decide +kernel
theorem dX10_offered_36 : decode cX10_offered 36 = .ok (.goto (-31), 3) := by decide +kernel
theorem dX10_offered_39 : decode cX10_offered 39 = .ok (.iload_n 3, 1) := by decide +kernel
theorem dX10_offered_40 : decode cX10_offered 40 = .ok (.ireturn, 1) := by decide +kernel
theorem dX10_chosen_0 : decode cX10_chosen 0 = .ok (.iconst (-1), 1) := by decide +kernel
theorem dX10_chosen_1 : decode cX10_chosen 1 = .ok (.istore_n 3, 1) := by decide +kernel
theorem dX10_chosen_2 : decode cX10_chosen 2 = .ok (.iconst 0, 1) := by decide +kernel
theorem dX10_chosen_3 : decode cX10_chosen 3 = .ok (.istore 4, 2) := by decide +kernel
theorem dX10_chosen_5 : decode cX10_chosen 5 = .ok (.iload 4, 2) := by decide +kernel
theorem dX10_chosen_7 : decode cX10_chosen 7 = .ok (.aload_n 0, 1) := by decide +kernel
theorem dX10_chosen_8 : decode cX10_chosen 8 = .ok (.getfield 131, 3) := by decide +kernel
theorem dX10_chosen_11 : decode cX10_chosen 11 = .ok (.if_icmp .ge 94, 3) := by decide +kernel
theorem dX10_chosen_14 : decode cX10_chosen 14 = .ok (.aload_n 0, 1) := by decide +kernel
theorem dX10_chosen_15 : decode cX10_chosen 15 = .ok (.iload 4, 2) := by decide +kernel
theorem dX10_chosen_17 : decode cX10_chosen 17 = .ok (.iload_n 1, 1) := by decide +kernel
theorem dX10_chosen_18 : decode cX10_chosen 18 = .ok (.iload_n 2, 1) := by decide +kernel
theorem dX10_chosen_19 : decode cX10_chosen 19 = .ok (.invokevirtual 171, 3) := by decide +kernel
theorem dX10_chosen_22 : decode cX10_chosen 22 = .ok (.ifCond .eq 77, 3) := by decide +kernel
theorem dX10_chosen_25 : decode cX10_chosen 25 = .ok (.iconst 1, 1) := by decide +kernel
theorem dX10_chosen_26 : decode cX10_chosen 26 = .ok (.istore 5, 2) := by decide +kernel
theorem dX10_chosen_28 : decode cX10_chosen 28 = .ok (.iconst 0, 1) := by decide +kernel
theorem dX10_chosen_29 : decode cX10_chosen 29 = .ok (.istore 6, 2) := by decide +kernel
theorem dX10_chosen_31 : decode cX10_chosen 31 = .ok (.iload 6, 2) := by decide +kernel
theorem dX10_chosen_33 : decode cX10_chosen 33 = .ok (.aload_n 0, 1) := by decide +kernel
theorem dX10_chosen_34 : decode cX10_chosen 34 = .ok (.getfield 131, 3) := by decide +kernel
theorem dX10_chosen_37 : decode cX10_chosen 37 = .ok (.if_icmp .ge 50, 3) := by decide +kernel
theorem dX10_chosen_40 : decode cX10_chosen 40 = .ok (.iload 5, 2) := by decide +kernel
theorem dX10_chosen_42 : decode cX10_chosen 42 = .ok (.ifCond .eq 36, 3) := by decide +kernel
theorem dX10_chosen_45 : decode cX10_chosen 45 = .ok (.iload 6, 2) := by decide +kernel
theorem dX10_chosen_47 : decode cX10_chosen 47 = .ok (.iload 4, 2) := by decide +kernel
theorem dX10_chosen_49 : decode cX10_chosen 49 = .ok (.if_icmp .eq 25, 3) := by decide +kernel
theorem dX10_chosen_52 : decode cX10_chosen 52 = .ok (.aload_n 0, 1) := by decide +kernel
theorem dX10_chosen_53 : decode cX10_chosen 53 = .ok (.iload 6, 2) := by decide +kernel
theorem dX10_chosen_55 : decode cX10_chosen 55 = .ok (.iload_n 1, 1) := by decide +kernel
theorem dX10_chosen_56 : decode cX10_chosen 56 = .ok (.iload_n 2, 1) := by decide +kernel
theorem dX10_chosen_57 : decode cX10_chosen 57 = .ok (.invokevirtual 171, 3) := by decide +kernel
theorem dX10_chosen_60 : decode cX10_chosen 60 = .ok (.ifCond .eq 14, 3) := by decide +kernel
theorem dX10_chosen_63 : decode cX10_chosen 63 = .ok (.aload_n 0, 1) := by decide +kernel
theorem dX10_chosen_64 : decode cX10_chosen 64 = .ok (.iload 4, 2) := by decide +kernel
theorem dX10_chosen_66 : decode cX10_chosen 66 = .ok (.iload 6, 2) := by decide +kernel
theorem dX10_chosen_68 : decode cX10_chosen 68 = .ok (.invokevirtual 159, 3) := by decide +kernel
theorem dX10_chosen_71 : decode cX10_chosen 71 = .ok (.ifCond .eq 7, 3) := by decide +kernel
theorem dX10_chosen_74 : decode cX10_chosen 74 = .ok (.iconst 1, 1) := by decide +kernel
theorem dX10_chosen_75 : decode cX10_chosen 75 = .ok (.goto 4, 3) := by decide +kernel
theorem dX10_chosen_78 : decode cX10_chosen 78 = .ok (.iconst 0, 1) := by decide +kernel
theorem dX10_chosen_79 : decode cX10_chosen 79 = .ok (.istore 5, 2) := by decide +kernel
theorem dX10_chosen_81 : decode cX10_chosen 81 = .ok (.iinc 6 1, 3) := by decide +kernel
theorem dX10_chosen_84 : decode cX10_chosen 84 = .ok (.goto (-53), 3) := by decide +kernel
theorem dX10_chosen_87 : decode cX10_chosen 87 = .ok (.iload 5, 2) := by decide +kernel
theorem dX10_chosen_89 : decode cX10_chosen 89 = .ok (.ifCond .eq 8, 3) := by decide +kernel
theorem dX10_chosen_92 : decode cX10_chosen 92 = .ok (.iload 4, 2) := by decide +kernel
theorem dX10_chosen_94 : decode cX10_chosen 94 = .ok (.goto 4, 3) := by decide +kernel
theorem dX10_chosen_97 : decode cX10_chosen 97 = .ok (.iload_n 3, 1) := by decide +kernel
theorem dX10_chosen_98 : decode cX10_chosen 98 = .ok (.istore_n 3, 1) := by decide +kernel
theorem dX10_chosen_99 : decode cX10_chosen 99 = .ok (.iinc 4 1, 3) := by decide +kernel
theorem dX10_chosen_102 : decode cX10_chosen 102 = .ok (.goto (-97), 3) := by decide +kernel
theorem dX10_chosen_105 : decode cX10_chosen 105 = .ok (.iload_n 3, 1) := by decide +kernel
theorem dX10_chosen_106 : decode cX10_chosen 106 = .ok (.ireturn, 1) := by decide +kernel
theorem dX10_tellRow_0 : decode cX10_tellRow 0 = .ok (.iconst 1, 1) := by decide +kernel
theorem dX10_tellRow_1 : decode cX10_tellRow 1 = .ok (.istore_n 2, 1) := by decide +kernel
theorem dX10_tellRow_2 : decode cX10_tellRow 2 = .ok (.iconst 0, 1) := by decide +kernel
theorem dX10_tellRow_3 : decode cX10_tellRow 3 = .ok (.istore_n 3, 1) := by decide +kernel
theorem dX10_tellRow_4 : decode cX10_tellRow 4 = .ok (.iload_n 3, 1) := by decide +kernel
theorem dX10_tellRow_5 : decode cX10_tellRow 5 = .ok (.aload_n 0, 1) := by decide +kernel
theorem dX10_tellRow_6 : decode cX10_tellRow 6 = .ok (.getfield 29, 3) := by decide +kernel
theorem dX10_tellRow_9 : decode cX10_tellRow 9 = .ok (.iload_n 1, 1) := by decide +kernel
theorem dX10_tellRow_10 : decode cX10_tellRow 10 = .ok (.iaload, 1) := by decide +kernel
theorem dX10_tellRow_11 : decode cX10_tellRow 11 = .ok (.if_icmp .ge 89, 3) := by decide +kernel
theorem dX10_tellRow_14 : decode cX10_tellRow 14 = .ok (.iload_n 2, 1) := by decide +kernel
theorem dX10_tellRow_15 : decode cX10_tellRow 15 = .ok (.ifCond .eq 16, 3) := by decide +kernel
theorem dX10_tellRow_18 : decode cX10_tellRow 18 = .ok (.aload_n 0, 1) := by decide +kernel
theorem dX10_tellRow_19 : decode cX10_tellRow 19 = .ok (.getfield 72, 3) := by decide +kernel
theorem dX10_tellRow_22 : decode cX10_tellRow 22 = .ok (.iload_n 3, 1) := by decide +kernel
theorem dX10_tellRow_23 : decode cX10_tellRow 23 = .ok (.iaload, 1) := by decide +kernel
theorem dX10_tellRow_24 : decode cX10_tellRow 24 = .ok (.ifCond .lt 7, 3) := by decide +kernel
theorem dX10_tellRow_27 : decode cX10_tellRow 27 = .ok (.iconst 1, 1) := by decide +kernel
theorem dX10_tellRow_28 : decode cX10_tellRow 28 = .ok (.goto 4, 3) := by decide +kernel
theorem dX10_tellRow_31 : decode cX10_tellRow 31 = .ok (.iconst 0, 1) := by decide +kernel
theorem dX10_tellRow_32 : decode cX10_tellRow 32 = .ok (.istore_n 2, 1) := by decide +kernel
theorem dX10_tellRow_33 : decode cX10_tellRow 33 = .ok (.aload_n 0, 1) := by decide +kernel
theorem dX10_tellRow_34 : decode cX10_tellRow 34 = .ok (.getfield 82, 3) := by decide +kernel
theorem dX10_tellRow_37 : decode cX10_tellRow 37 = .ok (.iload_n 3, 1) := by decide +kernel
theorem dX10_tellRow_38 : decode cX10_tellRow 38 = .ok (.aload_n 0, 1) := by decide +kernel
theorem dX10_tellRow_39 : decode cX10_tellRow 39 = .ok (.getfield 72, 3) := by decide +kernel
theorem dX10_tellRow_42 : decode cX10_tellRow 42 = .ok (.iload_n 3, 1) := by decide +kernel
theorem dX10_tellRow_43 : decode cX10_tellRow 43 = .ok (.iaload, 1) := by decide +kernel
theorem dX10_tellRow_44 : decode cX10_tellRow 44 = .ok (.ifCond .lt 17, 3) := by decide +kernel
theorem dX10_tellRow_47 : decode cX10_tellRow 47 = .ok (.aload_n 0, 1) := by decide +kernel
theorem dX10_tellRow_48 : decode cX10_tellRow 48 = .ok (.getfield 23, 3) := by decide +kernel
theorem dX10_tellRow_51 : decode cX10_tellRow 51 = .ok (.aload_n 0, 1) := by decide +kernel
theorem dX10_tellRow_52 : decode cX10_tellRow 52 = .ok (.getfield 72, 3) := by decide +kernel
theorem dX10_tellRow_55 : decode cX10_tellRow 55 = .ok (.iload_n 3, 1) := by decide +kernel
theorem dX10_tellRow_56 : decode cX10_tellRow 56 = .ok (.iaload, 1) := by decide +kernel
theorem dX10_tellRow_57 : decode cX10_tellRow 57 = .ok (.iaload, 1) := by decide +kernel
theorem dX10_tellRow_58 : decode cX10_tellRow 58 = .ok (.goto 4, 3) := by decide +kernel
theorem dX10_tellRow_61 : decode cX10_tellRow 61 = .ok (.iconst 0, 1) := by decide +kernel
theorem dX10_tellRow_62 : decode cX10_tellRow 62 = .ok (.iastore, 1) := by decide +kernel
theorem dX10_tellRow_63 : decode cX10_tellRow 63 = .ok (.aload_n 0, 1) := by decide +kernel
theorem dX10_tellRow_64 : decode cX10_tellRow 64 = .ok (.getfield 85, 3) := by decide +kernel
theorem dX10_tellRow_67 : decode cX10_tellRow 67 = .ok (.iload_n 3, 1) := by decide +kernel
theorem dX10_tellRow_68 : decode cX10_tellRow 68 = .ok (.aload_n 0, 1) := by decide +kernel
theorem dX10_tellRow_69 : decode cX10_tellRow 69 = .ok (.getfield 72, 3) := by decide +kernel
theorem dX10_tellRow_72 : decode cX10_tellRow 72 = .ok (.iload_n 3, 1) := by decide +kernel
theorem dX10_tellRow_73 : decode cX10_tellRow 73 = .ok (.iaload, 1) := by decide +kernel
theorem dX10_tellRow_74 : decode cX10_tellRow 74 = .ok (.ifCond .lt 18, 3) := by decide +kernel
theorem dX10_tellRow_77 : decode cX10_tellRow 77 = .ok (.aload_n 0, 1) := by decide +kernel
theorem dX10_tellRow_78 : decode cX10_tellRow 78 = .ok (.getfield 26, 3) := by decide +kernel
theorem dX10_tellRow_81 : decode cX10_tellRow 81 = .ok (.aload_n 0, 1) := by decide +kernel
theorem dX10_tellRow_82 : decode cX10_tellRow 82 = .ok (.getfield 72, 3) := by decide +kernel
theorem dX10_tellRow_85 : decode cX10_tellRow 85 = .ok (.iload_n 3, 1) := by decide +kernel
theorem dX10_tellRow_86 : decode cX10_tellRow 86 = .ok (.iaload, 1) := by decide +kernel
theorem dX10_tellRow_87 : decode cX10_tellRow 87 = .ok (.iaload, 1) := by decide +kernel
theorem dX10_tellRow_88 : decode cX10_tellRow 88 = .ok (.i2l, 1) := by decide +kernel
theorem dX10_tellRow_89 : decode cX10_tellRow 89 = .ok (.goto 4, 3) := by decide +kernel
theorem dX10_tellRow_92 : decode cX10_tellRow 92 = .ok (.lconst 0, 1) := by decide +kernel
theorem dX10_tellRow_93 : decode cX10_tellRow 93 = .ok (.lastore, 1) := by decide +kernel
theorem dX10_tellRow_94 : decode cX10_tellRow 94 = .ok (.iinc 3 1, 3) := by decide +kernel
theorem dX10_tellRow_97 : decode cX10_tellRow 97 = .ok (.goto (-93), 3) := by decide +kernel
theorem dX10_tellRow_100 : decode cX10_tellRow 100 = .ok (.iload_n 2, 1) := by decide +kernel
theorem dX10_tellRow_101 : decode cX10_tellRow 101 = .ok (.ireturn, 1) := by decide +kernel
theorem dX10_piece_0 : decode cX10_piece 0 = .ok (.ldc2_w 174, 3) := by decide +kernel
theorem dX10_piece_3 : decode cX10_piece 3 = .ok (.lstore_n 3, 1) := by decide +kernel
theorem dX10_piece_4 : decode cX10_piece 4 = .ok (.iconst 0, 1) := by decide +kernel
theorem dX10_piece_5 : decode cX10_piece 5 = .ok (.istore 5, 2) := by decide +kernel
theorem dX10_piece_7 : decode cX10_piece 7 = .ok (.iload 5, 2) := by decide +kernel
theorem dX10_piece_9 : decode cX10_piece 9 = .ok (.aload_n 0, 1) := by decide +kernel
theorem dX10_piece_10 : decode cX10_piece 10 = .ok (.getfield 131, 3) := by decide +kernel
theorem dX10_piece_13 : decode cX10_piece 13 = .ok (.if_icmp .ge 101, 3) := by decide +kernel
theorem dX10_piece_16 : decode cX10_piece 16 = .ok (.aload_n 0, 1) := by decide +kernel
theorem dX10_piece_17 : decode cX10_piece 17 = .ok (.iload 5, 2) := by decide +kernel
theorem dX10_piece_19 : decode cX10_piece 19 = .ok (.iload_n 1, 1) := by decide +kernel
theorem dX10_piece_20 : decode cX10_piece 20 = .ok (.invokevirtual 145, 3) := by decide +kernel
theorem dX10_piece_23 : decode cX10_piece 23 = .ok (.ifCond .eq 85, 3) := by decide +kernel
theorem dX10_piece_26 : decode cX10_piece 26 = .ok (.aload_n 0, 1) := by decide +kernel
theorem dX10_piece_27 : decode cX10_piece 27 = .ok (.getfield 63, 3) := by decide +kernel
theorem dX10_piece_30 : decode cX10_piece 30 = .ok (.iconst 2, 1) := by decide +kernel
theorem dX10_piece_31 : decode cX10_piece 31 = .ok (.iload 5, 2) := by decide +kernel
theorem dX10_piece_33 : decode cX10_piece 33 = .ok (.imul, 1) := by decide +kernel
theorem dX10_piece_34 : decode cX10_piece 34 = .ok (.iload_n 2, 1) := by decide +kernel
theorem dX10_piece_35 : decode cX10_piece 35 = .ok (.iadd, 1) := by decide +kernel
theorem dX10_piece_36 : decode cX10_piece 36 = .ok (.iaload, 1) := by decide +kernel
theorem dX10_piece_37 : decode cX10_piece 37 = .ok (.i2l, 1) := by decide +kernel
theorem dX10_piece_38 : decode cX10_piece 38 = .ok (.lstore 6, 2) := by decide +kernel
theorem dX10_piece_40 : decode cX10_piece 40 = .ok (.aload_n 0, 1) := by decide +kernel
theorem dX10_piece_41 : decode cX10_piece 41 = .ok (.getfield 66, 3) := by decide +kernel
theorem dX10_piece_44 : decode cX10_piece 44 = .ok (.iconst 2, 1) := by decide +kernel
theorem dX10_piece_45 : decode cX10_piece 45 = .ok (.iload 5, 2) := by decide +kernel
theorem dX10_piece_47 : decode cX10_piece 47 = .ok (.imul, 1) := by decide +kernel
theorem dX10_piece_48 : decode cX10_piece 48 = .ok (.iload_n 2, 1) := by decide +kernel
theorem dX10_piece_49 : decode cX10_piece 49 = .ok (.iadd, 1) := by decide +kernel
theorem dX10_piece_50 : decode cX10_piece 50 = .ok (.iaload, 1) := by decide +kernel
theorem dX10_piece_51 : decode cX10_piece 51 = .ok (.i2l, 1) := by decide +kernel
theorem dX10_piece_52 : decode cX10_piece 52 = .ok (.lconst 1, 1) := by decide +kernel
theorem dX10_piece_53 : decode cX10_piece 53 = .ok (.ladd, 1) := by decide +kernel
theorem dX10_piece_54 : decode cX10_piece 54 = .ok (.lstore 8, 2) := by decide +kernel
theorem dX10_piece_56 : decode cX10_piece 56 = .ok (.lload 6, 2) := by decide +kernel
theorem dX10_piece_58 : decode cX10_piece 58 = .ok (.aload_n 0, 1) := by decide +kernel
theorem dX10_piece_59 : decode cX10_piece 59 = .ok (.getfield 85, 3) := by decide +kernel
theorem dX10_piece_62 : decode cX10_piece 62 = .ok (.iload_n 2, 1) := by decide +kernel
theorem dX10_piece_63 : decode cX10_piece 63 = .ok (.laload, 1) := by decide +kernel
theorem dX10_piece_64 : decode cX10_piece 64 = .ok (.lcmp, 1) := by decide +kernel
theorem dX10_piece_65 : decode cX10_piece 65 = .ok (.ifCond .le 15, 3) := by decide +kernel
theorem dX10_piece_68 : decode cX10_piece 68 = .ok (.lload 6, 2) := by decide +kernel
theorem dX10_piece_70 : decode cX10_piece 70 = .ok (.lload_n 3, 1) := by decide +kernel
theorem dX10_piece_71 : decode cX10_piece 71 = .ok (.lcmp, 1) := by decide +kernel
theorem dX10_piece_72 : decode cX10_piece 72 = .ok (.ifCond .ge 8, 3) := by decide +kernel
theorem dX10_piece_75 : decode cX10_piece 75 = .ok (.lload 6, 2) := by decide +kernel
theorem dX10_piece_77 : decode cX10_piece 77 = .ok (.goto 4, 3) := by decide +kernel
theorem dX10_piece_80 : decode cX10_piece 80 = .ok (.lload_n 3, 1) := by decide +kernel
theorem dX10_piece_81 : decode cX10_piece 81 = .ok (.lstore_n 3, 1) := by decide +kernel
theorem dX10_piece_82 : decode cX10_piece 82 = .ok (.lload 8, 2) := by decide +kernel
theorem dX10_piece_84 : decode cX10_piece 84 = .ok (.aload_n 0, 1) := by decide +kernel
theorem dX10_piece_85 : decode cX10_piece 85 = .ok (.getfield 85, 3) := by decide +kernel
theorem dX10_piece_88 : decode cX10_piece 88 = .ok (.iload_n 2, 1) := by decide +kernel
theorem dX10_piece_89 : decode cX10_piece 89 = .ok (.laload, 1) := by decide +kernel
theorem dX10_piece_90 : decode cX10_piece 90 = .ok (.lcmp, 1) := by decide +kernel
theorem dX10_piece_91 : decode cX10_piece 91 = .ok (.ifCond .le 15, 3) := by decide +kernel
theorem dX10_piece_94 : decode cX10_piece 94 = .ok (.lload 8, 2) := by decide +kernel
theorem dX10_piece_96 : decode cX10_piece 96 = .ok (.lload_n 3, 1) := by decide +kernel
theorem dX10_piece_97 : decode cX10_piece 97 = .ok (.lcmp, 1) := by decide +kernel
theorem dX10_piece_98 : decode cX10_piece 98 = .ok (.ifCond .ge 8, 3) := by decide +kernel
theorem dX10_piece_101 : decode cX10_piece 101 = .ok (.lload 8, 2) := by decide +kernel
theorem dX10_piece_103 : decode cX10_piece 103 = .ok (.goto 4, 3) := by decide +kernel
theorem dX10_piece_106 : decode cX10_piece 106 = .ok (.lload_n 3, 1) := by decide +kernel
theorem dX10_piece_107 : decode cX10_piece 107 = .ok (.lstore_n 3, 1) := by decide +kernel
theorem dX10_piece_108 : decode cX10_piece 108 = .ok (.iinc 5 1, 3) := by decide +kernel
theorem dX10_piece_111 : decode cX10_piece 111 = .ok (.goto (-104), 3) := by decide +kernel
theorem dX10_piece_114 : decode cX10_piece 114 = .ok (.lload_n 3, 1) := by decide +kernel
theorem dX10_piece_115 : decode cX10_piece 115 = .ok (.lreturn, 1) := by decide +kernel
theorem dX10_remember_0 : decode cX10_remember 0 = .ok (.aload_n 0, 1) := by decide +kernel
theorem dX10_remember_1 : decode cX10_remember 1 = .ok (.getfield 82, 3) := by decide +kernel
theorem dX10_remember_4 : decode cX10_remember 4 = .ok (.iconst 0, 1) := by decide +kernel
theorem dX10_remember_5 : decode cX10_remember 5 = .ok (.iaload, 1) := by decide +kernel
theorem dX10_remember_6 : decode cX10_remember 6 = .ok (.i2l, 1) := by decide +kernel
theorem dX10_remember_7 : decode cX10_remember 7 = .ok (.lstore_n 2, 1) := by decide +kernel
theorem dX10_remember_8 : decode cX10_remember 8 = .ok (.aload_n 0, 1) := by decide +kernel
theorem dX10_remember_9 : decode cX10_remember 9 = .ok (.iload_n 1, 1) := by decide +kernel
theorem dX10_remember_10 : decode cX10_remember 10 = .ok (.iconst 0, 1) := by decide +kernel
theorem dX10_remember_11 : decode cX10_remember 11 = .ok (.invokevirtual 176, 3) := by decide +kernel
theorem dX10_remember_14 : decode cX10_remember 14 = .ok (.lstore 4, 2) := by decide +kernel
theorem dX10_remember_16 : decode cX10_remember 16 = .ok (.aload_n 0, 1) := by decide +kernel
theorem dX10_remember_17 : decode cX10_remember 17 = .ok (.getfield 29, 3) := by decide +kernel
theorem dX10_remember_20 : decode cX10_remember 20 = .ok (.iload_n 1, 1) := by decide +kernel
theorem dX10_remember_21 : decode cX10_remember 21 = .ok (.iaload, 1) := by decide +kernel
theorem dX10_remember_22 : decode cX10_remember 22 = .ok (.iconst 2, 1) := by decide +kernel
theorem dX10_remember_23 : decode cX10_remember 23 = .ok (.if_icmp .ne 13, 3) := by decide +kernel
theorem dX10_remember_26 : decode cX10_remember 26 = .ok (.aload_n 0, 1) := by decide +kernel
theorem dX10_remember_27 : decode cX10_remember 27 = .ok (.getfield 82, 3) := by decide +kernel
theorem dX10_remember_30 : decode cX10_remember 30 = .ok (.iconst 1, 1) := by decide +kernel
theorem dX10_remember_31 : decode cX10_remember 31 = .ok (.iaload, 1) := by decide +kernel
theorem dX10_remember_32 : decode cX10_remember 32 = .ok (.i2l, 1) := by decide +kernel
theorem dX10_remember_33 : decode cX10_remember 33 = .ok (.goto 4, 3) := by decide +kernel
theorem dX10_remember_36 : decode cX10_remember 36 = .ok (.lconst 0, 1) := by decide +kernel
theorem dX10_remember_37 : decode cX10_remember 37 = .ok (.lstore 6, 2) := by decide +kernel
theorem dX10_remember_39 : decode cX10_remember 39 = .ok (.aload_n 0, 1) := by decide +kernel
theorem dX10_remember_40 : decode cX10_remember 40 = .ok (.getfield 29, 3) := by decide +kernel
theorem dX10_remember_43 : decode cX10_remember 43 = .ok (.iload_n 1, 1) := by decide +kernel
theorem dX10_remember_44 : decode cX10_remember 44 = .ok (.iaload, 1) := by decide +kernel
theorem dX10_remember_45 : decode cX10_remember 45 = .ok (.iconst 2, 1) := by decide +kernel
theorem dX10_remember_46 : decode cX10_remember 46 = .ok (.if_icmp .ne 12, 3) := by decide +kernel
theorem dX10_remember_49 : decode cX10_remember 49 = .ok (.aload_n 0, 1) := by decide +kernel
theorem dX10_remember_50 : decode cX10_remember 50 = .ok (.iload_n 1, 1) := by decide +kernel
theorem dX10_remember_51 : decode cX10_remember 51 = .ok (.iconst 1, 1) := by decide +kernel
theorem dX10_remember_52 : decode cX10_remember 52 = .ok (.invokevirtual 176, 3) := by decide +kernel
theorem dX10_remember_55 : decode cX10_remember 55 = .ok (.goto 4, 3) := by decide +kernel
theorem dX10_remember_58 : decode cX10_remember 58 = .ok (.lconst 0, 1) := by decide +kernel
theorem dX10_remember_59 : decode cX10_remember 59 = .ok (.lstore 8, 2) := by decide +kernel
theorem dX10_remember_61 : decode cX10_remember 61 = .ok (.bipush 64, 2) := by decide +kernel
theorem dX10_remember_63 : decode cX10_remember 63 = .ok (.iload_n 1, 1) := by decide +kernel
theorem dX10_remember_64 : decode cX10_remember 64 = .ok (.imul, 1) := by decide +kernel
theorem dX10_remember_65 : decode cX10_remember 65 = .ok (.istore 10, 2) := by decide +kernel
theorem dX10_remember_67 : decode cX10_remember 67 = .ok (.iconst 0, 1) := by decide +kernel
theorem dX10_remember_68 : decode cX10_remember 68 = .ok (.istore 11, 2) := by decide +kernel
theorem dX10_remember_70 : decode cX10_remember 70 = .ok (.iload 11, 2) := by decide +kernel
theorem dX10_remember_72 : decode cX10_remember 72 = .ok (.aload_n 0, 1) := by decide +kernel
theorem dX10_remember_73 : decode cX10_remember 73 = .ok (.getfield 42, 3) := by decide +kernel
theorem dX10_remember_76 : decode cX10_remember 76 = .ok (.iload_n 1, 1) := by decide +kernel
theorem dX10_remember_77 : decode cX10_remember 77 = .ok (.iaload, 1) := by decide +kernel
theorem dX10_remember_78 : decode cX10_remember 78 = .ok (.if_icmp .ge 86, 3) := by decide +kernel
theorem dX10_remember_81 : decode cX10_remember 81 = .ok (.aload_n 0, 1) := by decide +kernel
theorem dX10_remember_82 : decode cX10_remember 82 = .ok (.getfield 38, 3) := by decide +kernel
theorem dX10_remember_85 : decode cX10_remember 85 = .ok (.iload 10, 2) := by decide +kernel
theorem dX10_remember_87 : decode cX10_remember 87 = .ok (.iconst 4, 1) := by decide +kernel
theorem dX10_remember_88 : decode cX10_remember 88 = .ok (.iload 11, 2) := by decide +kernel
theorem dX10_remember_90 : decode cX10_remember 90 = .ok (.imul, 1) := by decide +kernel
theorem dX10_remember_91 : decode cX10_remember 91 = .ok (.iadd, 1) := by decide +kernel
theorem dX10_remember_92 : decode cX10_remember 92 = .ok (.laload, 1) := by decide +kernel
theorem dX10_remember_93 : decode cX10_remember 93 = .ok (.lload_n 2, 1) := by decide +kernel
theorem dX10_remember_94 : decode cX10_remember 94 = .ok (.lcmp, 1) := by decide +kernel
theorem dX10_remember_95 : decode cX10_remember 95 = .ok (.ifCond .ne 63, 3) := by decide +kernel
theorem dX10_remember_98 : decode cX10_remember 98 = .ok (.aload_n 0, 1) := by decide +kernel
theorem dX10_remember_99 : decode cX10_remember 99 = .ok (.getfield 38, 3) := by decide +kernel
theorem dX10_remember_102 : decode cX10_remember 102 = .ok (.iload 10, 2) := by decide +kernel
theorem dX10_remember_104 : decode cX10_remember 104 = .ok (.iconst 4, 1) := by decide +kernel
theorem dX10_remember_105 : decode cX10_remember 105 = .ok (.iload 11, 2) := by decide +kernel
theorem dX10_remember_107 : decode cX10_remember 107 = .ok (.imul, 1) := by decide +kernel
theorem dX10_remember_108 : decode cX10_remember 108 = .ok (.iadd, 1) := by decide +kernel
theorem dX10_remember_109 : decode cX10_remember 109 = .ok (.iconst 1, 1) := by decide +kernel
theorem dX10_remember_110 : decode cX10_remember 110 = .ok (.iadd, 1) := by decide +kernel
theorem dX10_remember_111 : decode cX10_remember 111 = .ok (.laload, 1) := by decide +kernel
theorem dX10_remember_112 : decode cX10_remember 112 = .ok (.lload 4, 2) := by decide +kernel
theorem dX10_remember_114 : decode cX10_remember 114 = .ok (.lcmp, 1) := by decide +kernel
theorem dX10_remember_115 : decode cX10_remember 115 = .ok (.ifCond .ne 43, 3) := by decide +kernel
theorem dX10_remember_118 : decode cX10_remember 118 = .ok (.aload_n 0, 1) := by decide +kernel
theorem dX10_remember_119 : decode cX10_remember 119 = .ok (.getfield 38, 3) := by decide +kernel
theorem dX10_remember_122 : decode cX10_remember 122 = .ok (.iload 10, 2) := by decide +kernel
theorem dX10_remember_124 : decode cX10_remember 124 = .ok (.iconst 4, 1) := by decide +kernel
theorem dX10_remember_125 : decode cX10_remember 125 = .ok (.iload 11, 2) := by decide +kernel
theorem dX10_remember_127 : decode cX10_remember 127 = .ok (.imul, 1) := by decide +kernel
theorem dX10_remember_128 : decode cX10_remember 128 = .ok (.iadd, 1) := by decide +kernel
theorem dX10_remember_129 : decode cX10_remember 129 = .ok (.iconst 2, 1) := by decide +kernel
theorem dX10_remember_130 : decode cX10_remember 130 = .ok (.iadd, 1) := by decide +kernel
theorem dX10_remember_131 : decode cX10_remember 131 = .ok (.laload, 1) := by decide +kernel
theorem dX10_remember_132 : decode cX10_remember 132 = .ok (.lload 6, 2) := by decide +kernel
theorem dX10_remember_134 : decode cX10_remember 134 = .ok (.lcmp, 1) := by decide +kernel
theorem dX10_remember_135 : decode cX10_remember 135 = .ok (.ifCond .ne 23, 3) := by decide +kernel
theorem dX10_remember_138 : decode cX10_remember 138 = .ok (.aload_n 0, 1) := by decide +kernel
theorem dX10_remember_139 : decode cX10_remember 139 = .ok (.getfield 38, 3) := by decide +kernel
theorem dX10_remember_142 : decode cX10_remember 142 = .ok (.iload 10, 2) := by decide +kernel
theorem dX10_remember_144 : decode cX10_remember 144 = .ok (.iconst 4, 1) := by decide +kernel
theorem dX10_remember_145 : decode cX10_remember 145 = .ok (.iload 11, 2) := by decide +kernel
theorem dX10_remember_147 : decode cX10_remember 147 = .ok (.imul, 1) := by decide +kernel
theorem dX10_remember_148 : decode cX10_remember 148 = .ok (.iadd, 1) := by decide +kernel
theorem dX10_remember_149 : decode cX10_remember 149 = .ok (.iconst 3, 1) := by decide +kernel
theorem dX10_remember_150 : decode cX10_remember 150 = .ok (.iadd, 1) := by decide +kernel
theorem dX10_remember_151 : decode cX10_remember 151 = .ok (.laload, 1) := by decide +kernel
theorem dX10_remember_152 : decode cX10_remember 152 = .ok (.lload 8, 2) := by decide +kernel
theorem dX10_remember_154 : decode cX10_remember 154 = .ok (.lcmp, 1) := by decide +kernel
theorem dX10_remember_155 : decode cX10_remember 155 = .ok (.ifCond .eq 9, 3) := by decide +kernel
theorem dX10_remember_158 : decode cX10_remember 158 = .ok (.iinc 11 1, 3) := by decide +kernel
theorem dX10_remember_161 : decode cX10_remember 161 = .ok (.goto (-91), 3) := by decide +kernel
theorem dX10_remember_164 : decode cX10_remember 164 = .ok (.aload_n 0, 1) := by decide +kernel
theorem dX10_remember_165 : decode cX10_remember 165 = .ok (.getfield 35, 3) := by decide +kernel
theorem dX10_remember_168 : decode cX10_remember 168 = .ok (.iload_n 1, 1) := by decide +kernel
theorem dX10_remember_169 : decode cX10_remember 169 = .ok (.dup2, 1) := by decide +kernel
theorem dX10_remember_170 : decode cX10_remember 170 = .ok (.iaload, 1) := by decide +kernel
theorem dX10_remember_171 : decode cX10_remember 171 = .ok (.iload 11, 2) := by decide +kernel
theorem dX10_remember_173 : decode cX10_remember 173 = .ok (.aload_n 0, 1) := by decide +kernel
theorem dX10_remember_174 : decode cX10_remember 174 = .ok (.getfield 42, 3) := by decide +kernel
theorem dX10_remember_177 : decode cX10_remember 177 = .ok (.iload_n 1, 1) := by decide +kernel
theorem dX10_remember_178 : decode cX10_remember 178 = .ok (.iaload, 1) := by decide +kernel
theorem dX10_remember_179 : decode cX10_remember 179 = .ok (.if_icmp .ge 7, 3) := by decide +kernel
theorem dX10_remember_182 : decode cX10_remember 182 = .ok (.iconst 1, 1) := by decide +kernel
theorem dX10_remember_183 : decode cX10_remember 183 = .ok (.goto 4, 3) := by decide +kernel
theorem dX10_remember_186 : decode cX10_remember 186 = .ok (.iconst 0, 1) := by decide +kernel
theorem dX10_remember_187 : decode cX10_remember 187 = .ok (.iadd, 1) := by decide +kernel
theorem dX10_remember_188 : decode cX10_remember 188 = .ok (.iastore, 1) := by decide +kernel
theorem dX10_remember_189 : decode cX10_remember 189 = .ok (.iload 11, 2) := by decide +kernel
theorem dX10_remember_191 : decode cX10_remember 191 = .ok (.aload_n 0, 1) := by decide +kernel
theorem dX10_remember_192 : decode cX10_remember 192 = .ok (.getfield 42, 3) := by decide +kernel
theorem dX10_remember_195 : decode cX10_remember 195 = .ok (.iload_n 1, 1) := by decide +kernel
theorem dX10_remember_196 : decode cX10_remember 196 = .ok (.iaload, 1) := by decide +kernel
theorem dX10_remember_197 : decode cX10_remember 197 = .ok (.if_icmp .ge 8, 3) := by decide +kernel
theorem dX10_remember_200 : decode cX10_remember 200 = .ok (.iload 11, 2) := by decide +kernel
theorem dX10_remember_202 : decode cX10_remember 202 = .ok (.goto 24, 3) := by decide +kernel
theorem dX10_remember_205 : decode cX10_remember 205 = .ok (.aload_n 0, 1) := by decide +kernel
theorem dX10_remember_206 : decode cX10_remember 206 = .ok (.getfield 42, 3) := by decide +kernel
theorem dX10_remember_209 : decode cX10_remember 209 = .ok (.iload_n 1, 1) := by decide +kernel
theorem dX10_remember_210 : decode cX10_remember 210 = .ok (.iaload, 1) := by decide +kernel
theorem dX10_remember_211 : decode cX10_remember 211 = .ok (.bipush 16, 2) := by decide +kernel
theorem dX10_remember_213 : decode cX10_remember 213 = .ok (.if_icmp .ne 7, 3) := by decide +kernel
theorem dX10_remember_216 : decode cX10_remember 216 = .ok (.iconst 0, 1) := by decide +kernel
theorem dX10_remember_217 : decode cX10_remember 217 = .ok (.goto 9, 3) := by decide +kernel
theorem dX10_remember_220 : decode cX10_remember 220 = .ok (.aload_n 0, 1) := by decide +kernel
theorem dX10_remember_221 : decode cX10_remember 221 = .ok (.getfield 42, 3) := by decide +kernel
theorem dX10_remember_224 : decode cX10_remember 224 = .ok (.iload_n 1, 1) := by decide +kernel
theorem dX10_remember_225 : decode cX10_remember 225 = .ok (.iaload, 1) := by decide +kernel
theorem dX10_remember_226 : decode cX10_remember 226 = .ok (.istore 12, 2) := by decide +kernel
theorem dX10_remember_228 : decode cX10_remember 228 = .ok (.aload_n 0, 1) := by decide +kernel
theorem dX10_remember_229 : decode cX10_remember 229 = .ok (.getfield 42, 3) := by decide +kernel
theorem dX10_remember_232 : decode cX10_remember 232 = .ok (.iload_n 1, 1) := by decide +kernel
theorem dX10_remember_233 : decode cX10_remember 233 = .ok (.dup2, 1) := by decide +kernel
theorem dX10_remember_234 : decode cX10_remember 234 = .ok (.iaload, 1) := by decide +kernel
theorem dX10_remember_235 : decode cX10_remember 235 = .ok (.iload 12, 2) := by decide +kernel
theorem dX10_remember_237 : decode cX10_remember 237 = .ok (.aload_n 0, 1) := by decide +kernel
theorem dX10_remember_238 : decode cX10_remember 238 = .ok (.getfield 42, 3) := by decide +kernel
theorem dX10_remember_241 : decode cX10_remember 241 = .ok (.iload_n 1, 1) := by decide +kernel
theorem dX10_remember_242 : decode cX10_remember 242 = .ok (.iaload, 1) := by decide +kernel
theorem dX10_remember_243 : decode cX10_remember 243 = .ok (.if_icmp .ne 7, 3) := by decide +kernel
theorem dX10_remember_246 : decode cX10_remember 246 = .ok (.iconst 1, 1) := by decide +kernel
theorem dX10_remember_247 : decode cX10_remember 247 = .ok (.goto 4, 3) := by decide +kernel
theorem dX10_remember_250 : decode cX10_remember 250 = .ok (.iconst 0, 1) := by decide +kernel
theorem dX10_remember_251 : decode cX10_remember 251 = .ok (.iadd, 1) := by decide +kernel
theorem dX10_remember_252 : decode cX10_remember 252 = .ok (.iastore, 1) := by decide +kernel
theorem dX10_remember_253 : decode cX10_remember 253 = .ok (.iload 10, 2) := by decide +kernel
theorem dX10_remember_255 : decode cX10_remember 255 = .ok (.iconst 4, 1) := by decide +kernel
theorem dX10_remember_256 : decode cX10_remember 256 = .ok (.iload 12, 2) := by decide +kernel
theorem dX10_remember_258 : decode cX10_remember 258 = .ok (.imul, 1) := by decide +kernel
theorem dX10_remember_259 : decode cX10_remember 259 = .ok (.iadd, 1) := by decide +kernel
theorem dX10_remember_260 : decode cX10_remember 260 = .ok (.istore 13, 2) := by decide +kernel
theorem dX10_remember_262 : decode cX10_remember 262 = .ok (.iload 13, 2) := by decide +kernel
theorem dX10_remember_264 : decode cX10_remember 264 = .ok (.iload 10, 2) := by decide +kernel
theorem dX10_remember_266 : decode cX10_remember 266 = .ok (.iconst 4, 1) := by decide +kernel
theorem dX10_remember_267 : decode cX10_remember 267 = .ok (.aload_n 0, 1) := by decide +kernel
theorem dX10_remember_268 : decode cX10_remember 268 = .ok (.getfield 42, 3) := by decide +kernel
theorem dX10_remember_271 : decode cX10_remember 271 = .ok (.iload_n 1, 1) := by decide +kernel
theorem dX10_remember_272 : decode cX10_remember 272 = .ok (.iaload, 1) := by decide +kernel
theorem dX10_remember_273 : decode cX10_remember 273 = .ok (.imul, 1) := by decide +kernel
theorem dX10_remember_274 : decode cX10_remember 274 = .ok (.iadd, 1) := by decide +kernel
theorem dX10_remember_275 : decode cX10_remember 275 = .ok (.iconst 4, 1) := by decide +kernel
theorem dX10_remember_276 : decode cX10_remember 276 = .ok (.isub, 1) := by decide +kernel
theorem dX10_remember_277 : decode cX10_remember 277 = .ok (.if_icmp .ge 25, 3) := by decide +kernel
theorem dX10_remember_280 : decode cX10_remember 280 = .ok (.aload_n 0, 1) := by decide +kernel
theorem dX10_remember_281 : decode cX10_remember 281 = .ok (.getfield 38, 3) := by decide +kernel
theorem dX10_remember_284 : decode cX10_remember 284 = .ok (.iload 13, 2) := by decide +kernel
theorem dX10_remember_286 : decode cX10_remember 286 = .ok (.aload_n 0, 1) := by decide +kernel
theorem dX10_remember_287 : decode cX10_remember 287 = .ok (.getfield 38, 3) := by decide +kernel
theorem dX10_remember_290 : decode cX10_remember 290 = .ok (.iload 13, 2) := by decide +kernel
theorem dX10_remember_292 : decode cX10_remember 292 = .ok (.iconst 4, 1) := by decide +kernel
theorem dX10_remember_293 : decode cX10_remember 293 = .ok (.iadd, 1) := by decide +kernel
theorem dX10_remember_294 : decode cX10_remember 294 = .ok (.laload, 1) := by decide +kernel
theorem dX10_remember_295 : decode cX10_remember 295 = .ok (.lastore, 1) := by decide +kernel
theorem dX10_remember_296 : decode cX10_remember 296 = .ok (.iinc 13 1, 3) := by decide +kernel
theorem dX10_remember_299 : decode cX10_remember 299 = .ok (.goto (-37), 3) := by decide +kernel
theorem dX10_remember_302 : decode cX10_remember 302 = .ok (.iload 10, 2) := by decide +kernel
theorem dX10_remember_304 : decode cX10_remember 304 = .ok (.iconst 4, 1) := by decide +kernel
theorem dX10_remember_305 : decode cX10_remember 305 = .ok (.aload_n 0, 1) := by decide +kernel
theorem dX10_remember_306 : decode cX10_remember 306 = .ok (.getfield 42, 3) := by decide +kernel
theorem dX10_remember_309 : decode cX10_remember 309 = .ok (.iload_n 1, 1) := by decide +kernel
theorem dX10_remember_310 : decode cX10_remember 310 = .ok (.iaload, 1) := by decide +kernel
theorem dX10_remember_311 : decode cX10_remember 311 = .ok (.imul, 1) := by decide +kernel
theorem dX10_remember_312 : decode cX10_remember 312 = .ok (.iadd, 1) := by decide +kernel
theorem dX10_remember_313 : decode cX10_remember 313 = .ok (.iconst 4, 1) := by decide +kernel
theorem dX10_remember_314 : decode cX10_remember 314 = .ok (.isub, 1) := by decide +kernel
theorem dX10_remember_315 : decode cX10_remember 315 = .ok (.istore 13, 2) := by decide +kernel
theorem dX10_remember_317 : decode cX10_remember 317 = .ok (.aload_n 0, 1) := by decide +kernel
theorem dX10_remember_318 : decode cX10_remember 318 = .ok (.getfield 38, 3) := by decide +kernel
theorem dX10_remember_321 : decode cX10_remember 321 = .ok (.iload 13, 2) := by decide +kernel
theorem dX10_remember_323 : decode cX10_remember 323 = .ok (.lload_n 2, 1) := by decide +kernel
theorem dX10_remember_324 : decode cX10_remember 324 = .ok (.lastore, 1) := by decide +kernel
theorem dX10_remember_325 : decode cX10_remember 325 = .ok (.aload_n 0, 1) := by decide +kernel
theorem dX10_remember_326 : decode cX10_remember 326 = .ok (.getfield 38, 3) := by decide +kernel
theorem dX10_remember_329 : decode cX10_remember 329 = .ok (.iload 13, 2) := by decide +kernel
theorem dX10_remember_331 : decode cX10_remember 331 = .ok (.iconst 1, 1) := by decide +kernel
theorem dX10_remember_332 : decode cX10_remember 332 = .ok (.iadd, 1) := by decide +kernel
theorem dX10_remember_333 : decode cX10_remember 333 = .ok (.lload 4, 2) := by decide +kernel
theorem dX10_remember_335 : decode cX10_remember 335 = .ok (.lastore, 1) := by decide +kernel
theorem dX10_remember_336 : decode cX10_remember 336 = .ok (.aload_n 0, 1) := by decide +kernel
theorem dX10_remember_337 : decode cX10_remember 337 = .ok (.getfield 38, 3) := by decide +kernel
theorem dX10_remember_340 : decode cX10_remember 340 = .ok (.iload 13, 2) := by decide +kernel
theorem dX10_remember_342 : decode cX10_remember 342 = .ok (.iconst 2, 1) := by decide +kernel
theorem dX10_remember_343 : decode cX10_remember 343 = .ok (.iadd, 1) := by decide +kernel
theorem dX10_remember_344 : decode cX10_remember 344 = .ok (.lload 6, 2) := by decide +kernel
theorem dX10_remember_346 : decode cX10_remember 346 = .ok (.lastore, 1) := by decide +kernel
theorem dX10_remember_347 : decode cX10_remember 347 = .ok (.aload_n 0, 1) := by decide +kernel
theorem dX10_remember_348 : decode cX10_remember 348 = .ok (.getfield 38, 3) := by decide +kernel
theorem dX10_remember_351 : decode cX10_remember 351 = .ok (.iload 13, 2) := by decide +kernel
theorem dX10_remember_353 : decode cX10_remember 353 = .ok (.iconst 3, 1) := by decide +kernel
theorem dX10_remember_354 : decode cX10_remember 354 = .ok (.iadd, 1) := by decide +kernel
theorem dX10_remember_355 : decode cX10_remember 355 = .ok (.lload 8, 2) := by decide +kernel
theorem dX10_remember_357 : decode cX10_remember 357 = .ok (.lastore, 1) := by decide +kernel
theorem dX10_remember_358 : decode cX10_remember 358 = .ok (.return_, 1) := by decide +kernel
theorem dX10_arg_0 : decode cX10_arg 0 = .ok (.iload_n 1, 1) := by decide +kernel
theorem dX10_arg_1 : decode cX10_arg 1 = .ok (.ifCond .lt 20, 3) := by decide +kernel
theorem dX10_arg_4 : decode cX10_arg 4 = .ok (.iload_n 1, 1) := by decide +kernel
theorem dX10_arg_5 : decode cX10_arg 5 = .ok (.iconst 1, 1) := by decide +kernel
theorem dX10_arg_6 : decode cX10_arg 6 = .ok (.if_icmp .gt 15, 3) := by decide +kernel
theorem dX10_arg_9 : decode cX10_arg 9 = .ok (.iload_n 2, 1) := by decide +kernel
theorem dX10_arg_10 : decode cX10_arg 10 = .ok (.ifCond .lt 11, 3) := by decide +kernel
theorem dX10_arg_13 : decode cX10_arg 13 = .ok (.iload_n 2, 1) := by decide +kernel
theorem dX10_arg_14 : decode cX10_arg 14 = .ok (.aload_n 0, 1) := by decide +kernel
theorem dX10_arg_15 : decode cX10_arg 15 = .ok (.getfield 125, 3) := by decide +kernel
theorem dX10_arg_18 : decode cX10_arg 18 = .ok (.if_icmp .lt 6, 3) := by decide +kernel
theorem dX10_arg_21 : decode cX10_arg 21 = .ok (.bipush (-2), 2) := by decide +kernel
theorem dX10_arg_23 : decode cX10_arg 23 = .ok (.ireturn, 1) := by decide +kernel
theorem dX10_arg_24 : decode cX10_arg 24 = .ok (.aload_n 0, 1) := by decide +kernel
theorem dX10_arg_25 : decode cX10_arg 25 = .ok (.getfield 72, 3) := by decide +kernel
theorem dX10_arg_28 : decode cX10_arg 28 = .ok (.iload_n 1, 1) := by decide +kernel
theorem dX10_arg_29 : decode cX10_arg 29 = .ok (.iload_n 2, 1) := by decide +kernel
theorem dX10_arg_30 : decode cX10_arg 30 = .ok (.iastore, 1) := by decide +kernel
theorem dX10_arg_31 : decode cX10_arg 31 = .ok (.iconst 1, 1) := by decide +kernel
theorem dX10_arg_32 : decode cX10_arg 32 = .ok (.ireturn, 1) := by decide +kernel
theorem dX10_note_0 : decode cX10_note 0 = .ok (.aload_n 0, 1) := by decide +kernel
theorem dX10_note_1 : decode cX10_note 1 = .ok (.getfield 180, 3) := by decide +kernel
theorem dX10_note_4 : decode cX10_note 4 = .ok (.sipush 1000, 3) := by decide +kernel
theorem dX10_note_7 : decode cX10_note 7 = .ok (.if_icmp .ge 13, 3) := by decide +kernel
theorem dX10_note_10 : decode cX10_note 10 = .ok (.aload_n 0, 1) := by decide +kernel
theorem dX10_note_11 : decode cX10_note 11 = .ok (.getfield 79, 3) := by decide +kernel
theorem dX10_note_14 : decode cX10_note 14 = .ok (.aload_n 0, 1) := by decide +kernel
theorem dX10_note_15 : decode cX10_note 15 = .ok (.getfield 180, 3) := by decide +kernel
theorem dX10_note_18 : decode cX10_note 18 = .ok (.iload_n 1, 1) := by decide +kernel
theorem dX10_note_19 : decode cX10_note 19 = .ok (.iastore, 1) := by decide +kernel
theorem dX10_note_20 : decode cX10_note 20 = .ok (.aload_n 0, 1) := by decide +kernel
theorem dX10_note_21 : decode cX10_note 21 = .ok (.dup, 1) := by decide +kernel
theorem dX10_note_22 : decode cX10_note 22 = .ok (.getfield 180, 3) := by decide +kernel
theorem dX10_note_25 : decode cX10_note 25 = .ok (.iconst 1, 1) := by decide +kernel
theorem dX10_note_26 : decode cX10_note 26 = .ok (.iadd, 1) := by decide +kernel
theorem dX10_note_27 : decode cX10_note 27 = .ok (.putfield 180, 3) := by decide +kernel
theorem dX10_note_30 : decode cX10_note 30 = .ok (.return_, 1) := by decide +kernel
theorem dX10_weight_0 : decode cX10_weight 0 = .ok (.aload_n 0, 1) := by decide +kernel
theorem dX10_weight_1 : decode cX10_weight 1 = .ok (.getfield 85, 3) := by decide +kernel
theorem dX10_weight_4 : decode cX10_weight 4 = .ok (.iconst 0, 1) := by decide +kernel
theorem dX10_weight_5 : decode cX10_weight 5 = .ok (.laload, 1) := by decide +kernel
theorem dX10_weight_6 : decode cX10_weight 6 = .ok (.aload_n 0, 1) := by decide +kernel
theorem dX10_weight_7 : decode cX10_weight 7 = .ok (.getfield 29, 3) := by decide +kernel
theorem dX10_weight_10 : decode cX10_weight 10 = .ok (.iload_n 1, 1) := by decide +kernel
theorem dX10_weight_11 : decode cX10_weight 11 = .ok (.iaload, 1) := by decide +kernel
theorem dX10_weight_12 : decode cX10_weight 12 = .ok (.iconst 2, 1) := by decide +kernel
theorem dX10_weight_13 : decode cX10_weight 13 = .ok (.if_icmp .ne 12, 3) := by decide +kernel
theorem dX10_weight_16 : decode cX10_weight 16 = .ok (.aload_n 0, 1) := by decide +kernel
theorem dX10_weight_17 : decode cX10_weight 17 = .ok (.getfield 85, 3) := by decide +kernel
theorem dX10_weight_20 : decode cX10_weight 20 = .ok (.iconst 1, 1) := by decide +kernel
theorem dX10_weight_21 : decode cX10_weight 21 = .ok (.laload, 1) := by decide +kernel
theorem dX10_weight_22 : decode cX10_weight 22 = .ok (.goto 4, 3) := by decide +kernel
theorem dX10_weight_25 : decode cX10_weight 25 = .ok (.lconst 0, 1) := by decide +kernel
theorem dX10_weight_26 : decode cX10_weight 26 = .ok (.ladd, 1) := by decide +kernel
theorem dX10_weight_27 : decode cX10_weight 27 = .ok (.lreturn, 1) := by decide +kernel
theorem dX10_isBarred_0 : decode cX10_isBarred 0 = .ok (.aload_n 0, 1) := by decide +kernel
theorem dX10_isBarred_1 : decode cX10_isBarred 1 = .ok (.iload_n 1, 1) := by decide +kernel
theorem dX10_isBarred_2 : decode cX10_isBarred 2 = .ok (.invokevirtual 155, 3) := by decide +kernel
theorem dX10_isBarred_5 : decode cX10_isBarred 5 = .ok (.istore_n 2, 1) := by decide +kernel
theorem dX10_isBarred_6 : decode cX10_isBarred 6 = .ok (.iconst 0, 1) := by decide +kernel
theorem dX10_isBarred_7 : decode cX10_isBarred 7 = .ok (.istore_n 3, 1) := by decide +kernel
theorem dX10_isBarred_8 : decode cX10_isBarred 8 = .ok (.iload_n 3, 1) := by decide +kernel
theorem dX10_isBarred_9 : decode cX10_isBarred 9 = .ok (.iload_n 2, 1) := by decide +kernel
theorem dX10_isBarred_10 : decode cX10_isBarred 10 = .ok (.if_icmp .ge 61, 3) := by decide +kernel
theorem dX10_isBarred_13 : decode cX10_isBarred 13 = .ok (.aload_n 0, 1) := by decide +kernel
theorem dX10_isBarred_14 : decode cX10_isBarred 14 = .ok (.iload_n 1, 1) := by decide +kernel
theorem dX10_isBarred_15 : decode cX10_isBarred 15 = .ok (.iload_n 3, 1) := by decide +kernel
theorem dX10_isBarred_16 : decode cX10_isBarred 16 = .ok (.invokevirtual 162, 3) := by decide +kernel
theorem dX10_isBarred_19 : decode cX10_isBarred 19 = .ok (.istore 4, 2) := by decide +kernel
theorem dX10_isBarred_21 : decode cX10_isBarred 21 = .ok (.aload_n 0, 1) := by decide +kernel
theorem dX10_isBarred_22 : decode cX10_isBarred 22 = .ok (.getfield 54, 3) := by decide +kernel
theorem dX10_isBarred_25 : decode cX10_isBarred 25 = .ok (.iload 4, 2) := by decide +kernel
theorem dX10_isBarred_27 : decode cX10_isBarred 27 = .ok (.baload, 1) := by decide +kernel
theorem dX10_isBarred_28 : decode cX10_isBarred 28 = .ok (.ifCond .eq 37, 3) := by decide +kernel
theorem dX10_isBarred_31 : decode cX10_isBarred 31 = .ok (.aload_n 0, 1) := by decide +kernel
theorem dX10_isBarred_32 : decode cX10_isBarred 32 = .ok (.iload 4, 2) := by decide +kernel
theorem dX10_isBarred_34 : decode cX10_isBarred 34 = .ok (.invokevirtual 168, 3) := by decide +kernel
theorem dX10_isBarred_37 : decode cX10_isBarred 37 = .ok (.ifCond .eq 28, 3) := by decide +kernel
theorem dX10_isBarred_40 : decode cX10_isBarred 40 = .ok (.aload_n 0, 1) := by decide +kernel
theorem dX10_isBarred_41 : decode cX10_isBarred 41 = .ok (.iload 4, 2) := by decide +kernel
theorem dX10_isBarred_43 : decode cX10_isBarred 43 = .ok (.invokevirtual 183, 3) := by decide +kernel
theorem dX10_isBarred_46 : decode cX10_isBarred 46 = .ok (.aload_n 0, 1) := by decide +kernel
theorem dX10_isBarred_47 : decode cX10_isBarred 47 = .ok (.iload_n 1, 1) := by decide +kernel
theorem dX10_isBarred_48 : decode cX10_isBarred 48 = .ok (.invokevirtual 187, 3) := by decide +kernel
theorem dX10_isBarred_51 : decode cX10_isBarred 51 = .ok (.aload_n 0, 1) := by decide +kernel
theorem dX10_isBarred_52 : decode cX10_isBarred 52 = .ok (.getfield 51, 3) := by decide +kernel
theorem dX10_isBarred_55 : decode cX10_isBarred 55 = .ok (.iload 4, 2) := by decide +kernel
theorem dX10_isBarred_57 : decode cX10_isBarred 57 = .ok (.iaload, 1) := by decide +kernel
theorem dX10_isBarred_58 : decode cX10_isBarred 58 = .ok (.i2l, 1) := by decide +kernel
theorem dX10_isBarred_59 : decode cX10_isBarred 59 = .ok (.lcmp, 1) := by decide +kernel
theorem dX10_isBarred_60 : decode cX10_isBarred 60 = .ok (.ifCond .ge 5, 3) := by decide +kernel
theorem dX10_isBarred_63 : decode cX10_isBarred 63 = .ok (.iconst 1, 1) := by decide +kernel
theorem dX10_isBarred_64 : decode cX10_isBarred 64 = .ok (.ireturn, 1) := by decide +kernel
theorem dX10_isBarred_65 : decode cX10_isBarred 65 = .ok (.iinc 3 1, 3) := by decide +kernel
theorem dX10_isBarred_68 : decode cX10_isBarred 68 = .ok (.goto (-60), 3) := by decide +kernel
theorem dX10_isBarred_71 : decode cX10_isBarred 71 = .ok (.iconst 0, 1) := by decide +kernel
theorem dX10_isBarred_72 : decode cX10_isBarred 72 = .ok (.ireturn, 1) := by decide +kernel
theorem dX10_begin_0 : decode cX10_begin 0 = .ok (.aload_n 0, 1) := by decide +kernel
theorem dX10_begin_1 : decode cX10_begin 1 = .ok (.getfield 191, 3) := by decide +kernel
theorem dX10_begin_4 : decode cX10_begin 4 = .ok (.bipush 12, 2) := by decide +kernel
theorem dX10_begin_6 : decode cX10_begin 6 = .ok (.if_icmp .ne 6, 3) := by decide +kernel
theorem dX10_begin_9 : decode cX10_begin 9 = .ok (.bipush (-6), 2) := by decide +kernel
theorem dX10_begin_11 : decode cX10_begin 11 = .ok (.ireturn, 1) := by decide +kernel
theorem dX10_begin_12 : decode cX10_begin 12 = .ok (.aload_n 0, 1) := by decide +kernel
theorem dX10_begin_13 : decode cX10_begin 13 = .ok (.dup, 1) := by decide +kernel
theorem dX10_begin_14 : decode cX10_begin 14 = .ok (.getfield 191, 3) := by decide +kernel
theorem dX10_begin_17 : decode cX10_begin 17 = .ok (.iconst 1, 1) := by decide +kernel
theorem dX10_begin_18 : decode cX10_begin 18 = .ok (.iadd, 1) := by decide +kernel
theorem dX10_begin_19 : decode cX10_begin 19 = .ok (.putfield 191, 3) := by decide +kernel
theorem dX10_begin_22 : decode cX10_begin 22 = .ok (.aload_n 0, 1) := by decide +kernel
theorem dX10_begin_23 : decode cX10_begin 23 = .ok (.iload_n 1, 1) := by decide +kernel
theorem dX10_begin_24 : decode cX10_begin 24 = .ok (.invokevirtual 194, 3) := by decide +kernel
theorem dX10_begin_27 : decode cX10_begin 27 = .ok (.ifCond .eq 6, 3) := by decide +kernel
theorem dX10_begin_30 : decode cX10_begin 30 = .ok (.bipush (-7), 2) := by decide +kernel
theorem dX10_begin_32 : decode cX10_begin 32 = .ok (.ireturn, 1) := by decide +kernel
theorem dX10_begin_33 : decode cX10_begin 33 = .ok (.aload_n 0, 1) := by decide +kernel
theorem dX10_begin_34 : decode cX10_begin 34 = .ok (.iload_n 1, 1) := by decide +kernel
theorem dX10_begin_35 : decode cX10_begin 35 = .ok (.invokevirtual 197, 3) := by decide +kernel
theorem dX10_begin_38 : decode cX10_begin 38 = .ok (.aload_n 0, 1) := by decide +kernel
theorem dX10_begin_39 : decode cX10_begin 39 = .ok (.iload_n 1, 1) := by decide +kernel
theorem dX10_begin_40 : decode cX10_begin 40 = .ok (.iconst (-1), 1) := by decide +kernel
theorem dX10_begin_41 : decode cX10_begin 41 = .ok (.invokevirtual 200, 3) := by decide +kernel
theorem dX10_begin_44 : decode cX10_begin 44 = .ok (.ireturn, 1) := by decide +kernel
theorem dX10_choose_0 : decode cX10_choose 0 = .ok (.aload_n 0, 1) := by decide +kernel
theorem dX10_choose_1 : decode cX10_choose 1 = .ok (.iload_n 1, 1) := by decide +kernel
theorem dX10_choose_2 : decode cX10_choose 2 = .ok (.iload_n 2, 1) := by decide +kernel
theorem dX10_choose_3 : decode cX10_choose 3 = .ok (.invokevirtual 203, 3) := by decide +kernel
theorem dX10_choose_6 : decode cX10_choose 6 = .ok (.ifCond .ne 6, 3) := by decide +kernel
theorem dX10_choose_9 : decode cX10_choose 9 = .ok (.bipush (-3), 2) := by decide +kernel
theorem dX10_choose_11 : decode cX10_choose 11 = .ok (.ireturn, 1) := by decide +kernel
theorem dX10_choose_12 : decode cX10_choose 12 = .ok (.aload_n 0, 1) := by decide +kernel
theorem dX10_choose_13 : decode cX10_choose 13 = .ok (.iload_n 1, 1) := by decide +kernel
theorem dX10_choose_14 : decode cX10_choose 14 = .ok (.iload_n 2, 1) := by decide +kernel
theorem dX10_choose_15 : decode cX10_choose 15 = .ok (.invokevirtual 206, 3) := by decide +kernel
theorem dX10_choose_18 : decode cX10_choose 18 = .ok (.istore_n 3, 1) := by decide +kernel
theorem dX10_choose_19 : decode cX10_choose 19 = .ok (.iload_n 3, 1) := by decide +kernel
theorem dX10_choose_20 : decode cX10_choose 20 = .ok (.ifCond .ge 8, 3) := by decide +kernel
theorem dX10_choose_23 : decode cX10_choose 23 = .ok (.bipush (-4), 2) := by decide +kernel
theorem dX10_choose_25 : decode cX10_choose 25 = .ok (.goto 4, 3) := by decide +kernel
theorem dX10_choose_28 : decode cX10_choose 28 = .ok (.iload_n 3, 1) := by decide +kernel
theorem dX10_choose_29 : decode cX10_choose 29 = .ok (.ireturn, 1) := by decide +kernel
theorem dX10_fail_0 : decode cX10_fail 0 = .ok (.aload_n 0, 1) := by decide +kernel
theorem dX10_fail_1 : decode cX10_fail 1 = .ok (.iload_n 1, 1) := by decide +kernel
theorem dX10_fail_2 : decode cX10_fail 2 = .ok (.putfield 209, 3) := by decide +kernel
theorem dX10_fail_5 : decode cX10_fail 5 = .ok (.bipush (-5), 2) := by decide +kernel
theorem dX10_fail_7 : decode cX10_fail 7 = .ok (.ireturn, 1) := by decide +kernel
theorem dX10_end_0 : decode cX10_end 0 = .ok (.aload_n 0, 1) := by decide +kernel
theorem dX10_end_1 : decode cX10_end 1 = .ok (.dup, 1) := by decide +kernel
theorem dX10_end_2 : decode cX10_end 2 = .ok (.getfield 212, 3) := by decide +kernel
theorem dX10_end_5 : decode cX10_end 5 = .ok (.lload_n 1, 1) := by decide +kernel
theorem dX10_end_6 : decode cX10_end 6 = .ok (.ladd, 1) := by decide +kernel
theorem dX10_end_7 : decode cX10_end 7 = .ok (.putfield 212, 3) := by decide +kernel
theorem dX10_end_10 : decode cX10_end 10 = .ok (.bipush (-2), 2) := by decide +kernel
theorem dX10_end_12 : decode cX10_end 12 = .ok (.ireturn, 1) := by decide +kernel
theorem dX10_turn_0 : decode cX10_turn 0 = .ok (.aload_n 0, 1) := by decide +kernel
theorem dX10_turn_1 : decode cX10_turn 1 = .ok (.getfield 82, 3) := by decide +kernel
theorem dX10_turn_4 : decode cX10_turn 4 = .ok (.iconst 0, 1) := by decide +kernel
theorem dX10_turn_5 : decode cX10_turn 5 = .ok (.iaload, 1) := by decide +kernel
theorem dX10_turn_6 : decode cX10_turn 6 = .ok (.istore_n 1, 1) := by decide +kernel
theorem dX10_turn_7 : decode cX10_turn 7 = .ok (.aload_n 0, 1) := by decide +kernel
theorem dX10_turn_8 : decode cX10_turn 8 = .ok (.getfield 85, 3) := by decide +kernel
theorem dX10_turn_11 : decode cX10_turn 11 = .ok (.iconst 0, 1) := by decide +kernel
theorem dX10_turn_12 : decode cX10_turn 12 = .ok (.laload, 1) := by decide +kernel
theorem dX10_turn_13 : decode cX10_turn 13 = .ok (.lstore_n 2, 1) := by decide +kernel
theorem dX10_turn_14 : decode cX10_turn 14 = .ok (.aload_n 0, 1) := by decide +kernel
theorem dX10_turn_15 : decode cX10_turn 15 = .ok (.getfield 82, 3) := by decide +kernel
theorem dX10_turn_18 : decode cX10_turn 18 = .ok (.iconst 0, 1) := by decide +kernel
theorem dX10_turn_19 : decode cX10_turn 19 = .ok (.aload_n 0, 1) := by decide +kernel
theorem dX10_turn_20 : decode cX10_turn 20 = .ok (.getfield 82, 3) := by decide +kernel
theorem dX10_turn_23 : decode cX10_turn 23 = .ok (.iconst 1, 1) := by decide +kernel
theorem dX10_turn_24 : decode cX10_turn 24 = .ok (.iaload, 1) := by decide +kernel
theorem dX10_turn_25 : decode cX10_turn 25 = .ok (.iastore, 1) := by decide +kernel
theorem dX10_turn_26 : decode cX10_turn 26 = .ok (.aload_n 0, 1) := by decide +kernel
theorem dX10_turn_27 : decode cX10_turn 27 = .ok (.getfield 85, 3) := by decide +kernel
theorem dX10_turn_30 : decode cX10_turn 30 = .ok (.iconst 0, 1) := by decide +kernel
theorem dX10_turn_31 : decode cX10_turn 31 = .ok (.aload_n 0, 1) := by decide +kernel
theorem dX10_turn_32 : decode cX10_turn 32 = .ok (.getfield 85, 3) := by decide +kernel
theorem dX10_turn_35 : decode cX10_turn 35 = .ok (.iconst 1, 1) := by decide +kernel
theorem dX10_turn_36 : decode cX10_turn 36 = .ok (.laload, 1) := by decide +kernel
theorem dX10_turn_37 : decode cX10_turn 37 = .ok (.lastore, 1) := by decide +kernel
theorem dX10_turn_38 : decode cX10_turn 38 = .ok (.aload_n 0, 1) := by decide +kernel
theorem dX10_turn_39 : decode cX10_turn 39 = .ok (.getfield 82, 3) := by decide +kernel
theorem dX10_turn_42 : decode cX10_turn 42 = .ok (.iconst 1, 1) := by decide +kernel
theorem dX10_turn_43 : decode cX10_turn 43 = .ok (.iload_n 1, 1) := by decide +kernel
theorem dX10_turn_44 : decode cX10_turn 44 = .ok (.iastore, 1) := by decide +kernel
theorem dX10_turn_45 : decode cX10_turn 45 = .ok (.aload_n 0, 1) := by decide +kernel
theorem dX10_turn_46 : decode cX10_turn 46 = .ok (.getfield 85, 3) := by decide +kernel
theorem dX10_turn_49 : decode cX10_turn 49 = .ok (.iconst 1, 1) := by decide +kernel
theorem dX10_turn_50 : decode cX10_turn 50 = .ok (.lload_n 2, 1) := by decide +kernel
theorem dX10_turn_51 : decode cX10_turn 51 = .ok (.lastore, 1) := by decide +kernel
theorem dX10_turn_52 : decode cX10_turn 52 = .ok (.return_, 1) := by decide +kernel
theorem dX10_rest_0 : decode cX10_rest 0 = .ok (.iload_n 0, 1) := by decide +kernel
theorem dX10_rest_1 : decode cX10_rest 1 = .ok (.iload_n 1, 1) := by decide +kernel
theorem dX10_rest_2 : decode cX10_rest 2 = .ok (.irem, 1) := by decide +kernel
theorem dX10_rest_3 : decode cX10_rest 3 = .ok (.istore_n 2, 1) := by decide +kernel
theorem dX10_rest_4 : decode cX10_rest 4 = .ok (.iload_n 2, 1) := by decide +kernel
theorem dX10_rest_5 : decode cX10_rest 5 = .ok (.ifCond .ge 9, 3) := by decide +kernel
theorem dX10_rest_8 : decode cX10_rest 8 = .ok (.iload_n 2, 1) := by decide +kernel
theorem dX10_rest_9 : decode cX10_rest 9 = .ok (.iload_n 1, 1) := by decide +kernel
theorem dX10_rest_10 : decode cX10_rest 10 = .ok (.iadd, 1) := by decide +kernel
theorem dX10_rest_11 : decode cX10_rest 11 = .ok (.goto 4, 3) := by decide +kernel
theorem dX10_rest_14 : decode cX10_rest 14 = .ok (.iload_n 2, 1) := by decide +kernel
theorem dX10_rest_15 : decode cX10_rest 15 = .ok (.ireturn, 1) := by decide +kernel
theorem dX10_callOn_0 : decode cX10_callOn 0 = .ok (.aload_n 0, 1) := by decide +kernel
theorem dX10_callOn_1 : decode cX10_callOn 1 = .ok (.getfield 51, 3) := by decide +kernel
theorem dX10_callOn_4 : decode cX10_callOn 4 = .ok (.iload_n 2, 1) := by decide +kernel
theorem dX10_callOn_5 : decode cX10_callOn 5 = .ok (.iaload, 1) := by decide +kernel
theorem dX10_callOn_6 : decode cX10_callOn 6 = .ok (.iconst 4, 1) := by decide +kernel
theorem dX10_callOn_7 : decode cX10_callOn 7 = .ok (.invokestatic 216, 3) := by decide +kernel
theorem dX10_callOn_10 : decode cX10_callOn 10 = .ok (.istore_n 3, 1) := by decide +kernel
theorem dX10_callOn_11 : decode cX10_callOn 11 = .ok (.aload_n 0, 1) := by decide +kernel
theorem dX10_callOn_12 : decode cX10_callOn 12 = .ok (.iload_n 3, 1) := by decide +kernel
theorem dX10_callOn_13 : decode cX10_callOn 13 = .ok (.invokevirtual 134, 3) := by decide +kernel
theorem dX10_callOn_16 : decode cX10_callOn 16 = .ok (.ifCond .eq 18, 3) := by decide +kernel
theorem dX10_callOn_19 : decode cX10_callOn 19 = .ok (.aload_n 0, 1) := by decide +kernel
theorem dX10_callOn_20 : decode cX10_callOn 20 = .ok (.getfield 29, 3) := by decide +kernel
theorem dX10_callOn_23 : decode cX10_callOn 23 = .ok (.iload_n 3, 1) := by decide +kernel
theorem dX10_callOn_24 : decode cX10_callOn 24 = .ok (.iaload, 1) := by decide +kernel
theorem dX10_callOn_25 : decode cX10_callOn 25 = .ok (.aload_n 0, 1) := by decide +kernel
theorem dX10_callOn_26 : decode cX10_callOn 26 = .ok (.getfield 29, 3) := by decide +kernel
theorem dX10_callOn_29 : decode cX10_callOn 29 = .ok (.iload_n 1, 1) := by decide +kernel
theorem dX10_callOn_30 : decode cX10_callOn 30 = .ok (.iaload, 1) := by decide +kernel
theorem dX10_callOn_31 : decode cX10_callOn 31 = .ok (.if_icmp .eq 10, 3) := by decide +kernel
theorem dX10_callOn_34 : decode cX10_callOn 34 = .ok (.aload_n 0, 1) := by decide +kernel
theorem dX10_callOn_35 : decode cX10_callOn 35 = .ok (.bipush (-2), 2) := by decide +kernel
theorem dX10_callOn_37 : decode cX10_callOn 37 = .ok (.invokevirtual 219, 3) := by decide +kernel
theorem dX10_callOn_40 : decode cX10_callOn 40 = .ok (.ireturn, 1) := by decide +kernel
theorem dX10_callOn_41 : decode cX10_callOn 41 = .ok (.aload_n 0, 1) := by decide +kernel
theorem dX10_callOn_42 : decode cX10_callOn 42 = .ok (.getfield 48, 3) := by decide +kernel
theorem dX10_callOn_45 : decode cX10_callOn 45 = .ok (.iload_n 2, 1) := by decide +kernel
theorem dX10_callOn_46 : decode cX10_callOn 46 = .ok (.iaload, 1) := by decide +kernel
theorem dX10_callOn_47 : decode cX10_callOn 47 = .ok (.bipush 7, 2) := by decide +kernel
theorem dX10_callOn_49 : decode cX10_callOn 49 = .ok (.if_icmp .ne 17, 3) := by decide +kernel
theorem dX10_callOn_52 : decode cX10_callOn 52 = .ok (.aload_n 0, 1) := by decide +kernel
theorem dX10_callOn_53 : decode cX10_callOn 53 = .ok (.getfield 29, 3) := by decide +kernel
theorem dX10_callOn_56 : decode cX10_callOn 56 = .ok (.iload_n 1, 1) := by decide +kernel
theorem dX10_callOn_57 : decode cX10_callOn 57 = .ok (.iaload, 1) := by decide +kernel
theorem dX10_callOn_58 : decode cX10_callOn 58 = .ok (.iconst 2, 1) := by decide +kernel
theorem dX10_callOn_59 : decode cX10_callOn 59 = .ok (.if_icmp .ne 7, 3) := by decide +kernel
theorem dX10_callOn_62 : decode cX10_callOn 62 = .ok (.aload_n 0, 1) := by decide +kernel
theorem dX10_callOn_63 : decode cX10_callOn 63 = .ok (.invokevirtual 222, 3) := by decide +kernel
theorem dX10_callOn_66 : decode cX10_callOn 66 = .ok (.aload_n 0, 1) := by decide +kernel
theorem dX10_callOn_67 : decode cX10_callOn 67 = .ok (.dup, 1) := by decide +kernel
theorem dX10_callOn_68 : decode cX10_callOn 68 = .ok (.getfield 212, 3) := by decide +kernel
theorem dX10_callOn_71 : decode cX10_callOn 71 = .ok (.lconst 1, 1) := by decide +kernel
theorem dX10_callOn_72 : decode cX10_callOn 72 = .ok (.ladd, 1) := by decide +kernel
theorem dX10_callOn_73 : decode cX10_callOn 73 = .ok (.putfield 212, 3) := by decide +kernel
theorem dX10_callOn_76 : decode cX10_callOn 76 = .ok (.aload_n 0, 1) := by decide +kernel
theorem dX10_callOn_77 : decode cX10_callOn 77 = .ok (.iload_n 3, 1) := by decide +kernel
theorem dX10_callOn_78 : decode cX10_callOn 78 = .ok (.invokevirtual 225, 3) := by decide +kernel
theorem dX10_callOn_81 : decode cX10_callOn 81 = .ok (.ireturn, 1) := by decide +kernel
theorem dX10_grow_0 : decode cX10_grow 0 = .ok (.aload_n 0, 1) := by decide +kernel
theorem dX10_grow_1 : decode cX10_grow 1 = .ok (.getfield 125, 3) := by decide +kernel
theorem dX10_grow_4 : decode cX10_grow 4 = .ok (.sipush 300, 3) := by decide +kernel
theorem dX10_grow_7 : decode cX10_grow 7 = .ok (.if_icmp .ne 9, 3) := by decide +kernel
theorem dX10_grow_10 : decode cX10_grow 10 = .ok (.aload_n 0, 1) := by decide +kernel
theorem dX10_grow_11 : decode cX10_grow 11 = .ok (.iconst (-1), 1) := by decide +kernel
theorem dX10_grow_12 : decode cX10_grow 12 = .ok (.invokevirtual 219, 3) := by decide +kernel
theorem dX10_grow_15 : decode cX10_grow 15 = .ok (.ireturn, 1) := by decide +kernel
theorem dX10_grow_16 : decode cX10_grow 16 = .ok (.aload_n 0, 1) := by decide +kernel
theorem dX10_grow_17 : decode cX10_grow 17 = .ok (.getfield 23, 3) := by decide +kernel
theorem dX10_grow_20 : decode cX10_grow 20 = .ok (.aload_n 0, 1) := by decide +kernel
theorem dX10_grow_21 : decode cX10_grow 21 = .ok (.getfield 125, 3) := by decide +kernel
theorem dX10_grow_24 : decode cX10_grow 24 = .ok (.aload_n 0, 1) := by decide +kernel
theorem dX10_grow_25 : decode cX10_grow 25 = .ok (.getfield 82, 3) := by decide +kernel
theorem dX10_grow_28 : decode cX10_grow 28 = .ok (.iconst 0, 1) := by decide +kernel
theorem dX10_grow_29 : decode cX10_grow 29 = .ok (.iaload, 1) := by decide +kernel
theorem dX10_grow_30 : decode cX10_grow 30 = .ok (.iastore, 1) := by decide +kernel
theorem dX10_grow_31 : decode cX10_grow 31 = .ok (.aload_n 0, 1) := by decide +kernel
theorem dX10_grow_32 : decode cX10_grow 32 = .ok (.getfield 26, 3) := by decide +kernel
theorem dX10_grow_35 : decode cX10_grow 35 = .ok (.aload_n 0, 1) := by decide +kernel
theorem dX10_grow_36 : decode cX10_grow 36 = .ok (.getfield 125, 3) := by decide +kernel
theorem dX10_grow_39 : decode cX10_grow 39 = .ok (.aload_n 0, 1) := by decide +kernel
theorem dX10_grow_40 : decode cX10_grow 40 = .ok (.getfield 85, 3) := by decide +kernel
theorem dX10_grow_43 : decode cX10_grow 43 = .ok (.iconst 0, 1) := by decide +kernel
theorem dX10_grow_44 : decode cX10_grow 44 = .ok (.laload, 1) := by decide +kernel
theorem dX10_grow_45 : decode cX10_grow 45 = .ok (.iload_n 1, 1) := by decide +kernel
theorem dX10_grow_46 : decode cX10_grow 46 = .ok (.i2l, 1) := by decide +kernel
theorem dX10_grow_47 : decode cX10_grow 47 = .ok (.ladd, 1) := by decide +kernel
theorem dX10_grow_48 : decode cX10_grow 48 = .ok (.l2i, 1) := by decide +kernel
theorem dX10_grow_49 : decode cX10_grow 49 = .ok (.iastore, 1) := by decide +kernel
theorem dX10_grow_50 : decode cX10_grow 50 = .ok (.aload_n 0, 1) := by decide +kernel
theorem dX10_grow_51 : decode cX10_grow 51 = .ok (.dup, 1) := by decide +kernel
theorem dX10_grow_52 : decode cX10_grow 52 = .ok (.getfield 125, 3) := by decide +kernel
theorem dX10_grow_55 : decode cX10_grow 55 = .ok (.iconst 1, 1) := by decide +kernel
theorem dX10_grow_56 : decode cX10_grow 56 = .ok (.iadd, 1) := by decide +kernel
theorem dX10_grow_57 : decode cX10_grow 57 = .ok (.putfield 125, 3) := by decide +kernel
theorem dX10_grow_60 : decode cX10_grow 60 = .ok (.aload_n 0, 1) := by decide +kernel
theorem dX10_grow_61 : decode cX10_grow 61 = .ok (.aload_n 0, 1) := by decide +kernel
theorem dX10_grow_62 : decode cX10_grow 62 = .ok (.getfield 125, 3) := by decide +kernel
theorem dX10_grow_65 : decode cX10_grow 65 = .ok (.iconst 1, 1) := by decide +kernel
theorem dX10_grow_66 : decode cX10_grow 66 = .ok (.isub, 1) := by decide +kernel
theorem dX10_grow_67 : decode cX10_grow 67 = .ok (.i2l, 1) := by decide +kernel
theorem dX10_grow_68 : decode cX10_grow 68 = .ok (.invokevirtual 228, 3) := by decide +kernel
theorem dX10_grow_71 : decode cX10_grow 71 = .ok (.ireturn, 1) := by decide +kernel
theorem dX10_run_0 : decode cX10_run 0 = .ok (.aload_n 0, 1) := by decide +kernel
theorem dX10_run_1 : decode cX10_run 1 = .ok (.getfield 51, 3) := by decide +kernel
theorem dX10_run_4 : decode cX10_run 4 = .ok (.iload_n 2, 1) := by decide +kernel
theorem dX10_run_5 : decode cX10_run 5 = .ok (.iaload, 1) := by decide +kernel
theorem dX10_run_6 : decode cX10_run 6 = .ok (.istore_n 3, 1) := by decide +kernel
theorem dX10_run_7 : decode cX10_run 7 = .ok (.aload_n 0, 1) := by decide +kernel
theorem dX10_run_8 : decode cX10_run 8 = .ok (.iload_n 2, 1) := by decide +kernel
theorem dX10_run_9 : decode cX10_run 9 = .ok (.invokevirtual 183, 3) := by decide +kernel
theorem dX10_run_12 : decode cX10_run 12 = .ok (.aload_n 0, 1) := by decide +kernel
theorem dX10_run_13 : decode cX10_run 13 = .ok (.getfield 48, 3) := by decide +kernel
theorem dX10_run_16 : decode cX10_run 16 = .ok (.iload_n 2, 1) := by decide +kernel
theorem dX10_run_17 : decode cX10_run 17 = .ok (.iaload, 1) := by decide +kernel
theorem dX10_run_18 : decode cX10_run 18 = .ok (.tableswitch 136 0 5 #[38, 45, 58, 92, 98, 130], 38) := by decide +kernel
theorem dX10_run_56 : decode cX10_run 56 = .ok (.aload_n 0, 1) := by decide +kernel
theorem dX10_run_57 : decode cX10_run 57 = .ok (.iload_n 3, 1) := by decide +kernel
theorem dX10_run_58 : decode cX10_run 58 = .ok (.i2l, 1) := by decide +kernel
theorem dX10_run_59 : decode cX10_run 59 = .ok (.invokevirtual 228, 3) := by decide +kernel
theorem dX10_run_62 : decode cX10_run 62 = .ok (.ireturn, 1) := by decide +kernel
theorem dX10_run_63 : decode cX10_run 63 = .ok (.aload_n 0, 1) := by decide +kernel
theorem dX10_run_64 : decode cX10_run 64 = .ok (.aload_n 0, 1) := by decide +kernel
theorem dX10_run_65 : decode cX10_run 65 = .ok (.iload_n 1, 1) := by decide +kernel
theorem dX10_run_66 : decode cX10_run 66 = .ok (.invokevirtual 187, 3) := by decide +kernel
theorem dX10_run_69 : decode cX10_run 69 = .ok (.iload_n 3, 1) := by decide +kernel
theorem dX10_run_70 : decode cX10_run 70 = .ok (.i2l, 1) := by decide +kernel
theorem dX10_run_71 : decode cX10_run 71 = .ok (.ladd, 1) := by decide +kernel
theorem dX10_run_72 : decode cX10_run 72 = .ok (.invokevirtual 228, 3) := by decide +kernel
theorem dX10_run_75 : decode cX10_run 75 = .ok (.ireturn, 1) := by decide +kernel
theorem dX10_run_76 : decode cX10_run 76 = .ok (.aload_n 0, 1) := by decide +kernel
theorem dX10_run_77 : decode cX10_run 77 = .ok (.iload_n 1, 1) := by decide +kernel
theorem dX10_run_78 : decode cX10_run 78 = .ok (.iload_n 2, 1) := by decide +kernel
theorem dX10_run_79 : decode cX10_run 79 = .ok (.invokevirtual 203, 3) := by decide +kernel
theorem dX10_run_82 : decode cX10_run 82 = .ok (.ifCond .ne 10, 3) := by decide +kernel
theorem dX10_run_85 : decode cX10_run 85 = .ok (.aload_n 0, 1) := by decide +kernel
theorem dX10_run_86 : decode cX10_run 86 = .ok (.iload_n 3, 1) := by decide +kernel
theorem dX10_run_87 : decode cX10_run 87 = .ok (.i2l, 1) := by decide +kernel
theorem dX10_run_88 : decode cX10_run 88 = .ok (.invokevirtual 228, 3) := by decide +kernel
theorem dX10_run_91 : decode cX10_run 91 = .ok (.ireturn, 1) := by decide +kernel
theorem dX10_run_92 : decode cX10_run 92 = .ok (.aload_n 0, 1) := by decide +kernel
theorem dX10_run_93 : decode cX10_run 93 = .ok (.dup, 1) := by decide +kernel
theorem dX10_run_94 : decode cX10_run 94 = .ok (.getfield 212, 3) := by decide +kernel
theorem dX10_run_97 : decode cX10_run 97 = .ok (.iload_n 3, 1) := by decide +kernel
theorem dX10_run_98 : decode cX10_run 98 = .ok (.i2l, 1) := by decide +kernel
theorem dX10_run_99 : decode cX10_run 99 = .ok (.ladd, 1) := by decide +kernel
theorem dX10_run_100 : decode cX10_run 100 = .ok (.putfield 212, 3) := by decide +kernel
theorem dX10_run_103 : decode cX10_run 103 = .ok (.aload_n 0, 1) := by decide +kernel
theorem dX10_run_104 : decode cX10_run 104 = .ok (.iload_n 1, 1) := by decide +kernel
theorem dX10_run_105 : decode cX10_run 105 = .ok (.iload_n 2, 1) := by decide +kernel
theorem dX10_run_106 : decode cX10_run 106 = .ok (.invokevirtual 200, 3) := by decide +kernel
theorem dX10_run_109 : decode cX10_run 109 = .ok (.ireturn, 1) := by decide +kernel
theorem dX10_run_110 : decode cX10_run 110 = .ok (.aload_n 0, 1) := by decide +kernel
theorem dX10_run_111 : decode cX10_run 111 = .ok (.iload_n 3, 1) := by decide +kernel
theorem dX10_run_112 : decode cX10_run 112 = .ok (.invokevirtual 219, 3) := by decide +kernel
theorem dX10_run_115 : decode cX10_run 115 = .ok (.ireturn, 1) := by decide +kernel
theorem dX10_run_116 : decode cX10_run 116 = .ok (.iload_n 3, 1) := by decide +kernel
theorem dX10_run_117 : decode cX10_run 117 = .ok (.bipush 8, 2) := by decide +kernel
theorem dX10_run_119 : decode cX10_run 119 = .ok (.invokestatic 216, 3) := by decide +kernel
theorem dX10_run_122 : decode cX10_run 122 = .ok (.istore 4, 2) := by decide +kernel
theorem dX10_run_124 : decode cX10_run 124 = .ok (.aload_n 0, 1) := by decide +kernel
theorem dX10_run_125 : decode cX10_run 125 = .ok (.getfield 69, 3) := by decide +kernel
theorem dX10_run_128 : decode cX10_run 128 = .ok (.iload 4, 2) := by decide +kernel
theorem dX10_run_130 : decode cX10_run 130 = .ok (.dup2, 1) := by decide +kernel
theorem dX10_run_131 : decode cX10_run 131 = .ok (.iaload, 1) := by decide +kernel
theorem dX10_run_132 : decode cX10_run 132 = .ok (.iconst 1, 1) := by decide +kernel
theorem dX10_run_133 : decode cX10_run 133 = .ok (.iadd, 1) := by decide +kernel
theorem dX10_run_134 : decode cX10_run 134 = .ok (.iastore, 1) := by decide +kernel
theorem dX10_run_135 : decode cX10_run 135 = .ok (.aload_n 0, 1) := by decide +kernel
theorem dX10_run_136 : decode cX10_run 136 = .ok (.aload_n 0, 1) := by decide +kernel
theorem dX10_run_137 : decode cX10_run 137 = .ok (.getfield 69, 3) := by decide +kernel
theorem dX10_run_140 : decode cX10_run 140 = .ok (.iload 4, 2) := by decide +kernel
theorem dX10_run_142 : decode cX10_run 142 = .ok (.iaload, 1) := by decide +kernel
theorem dX10_run_143 : decode cX10_run 143 = .ok (.i2l, 1) := by decide +kernel
theorem dX10_run_144 : decode cX10_run 144 = .ok (.invokevirtual 228, 3) := by decide +kernel
theorem dX10_run_147 : decode cX10_run 147 = .ok (.ireturn, 1) := by decide +kernel
theorem dX10_run_148 : decode cX10_run 148 = .ok (.aload_n 0, 1) := by decide +kernel
theorem dX10_run_149 : decode cX10_run 149 = .ok (.iload_n 3, 1) := by decide +kernel
theorem dX10_run_150 : decode cX10_run 150 = .ok (.invokevirtual 232, 3) := by decide +kernel
theorem dX10_run_153 : decode cX10_run 153 = .ok (.ireturn, 1) := by decide +kernel
theorem dX10_run_154 : decode cX10_run 154 = .ok (.aload_n 0, 1) := by decide +kernel
theorem dX10_run_155 : decode cX10_run 155 = .ok (.iload_n 1, 1) := by decide +kernel
theorem dX10_run_156 : decode cX10_run 156 = .ok (.iload_n 2, 1) := by decide +kernel
theorem dX10_run_157 : decode cX10_run 157 = .ok (.invokevirtual 235, 3) := by decide +kernel
theorem dX10_run_160 : decode cX10_run 160 = .ok (.ireturn, 1) := by decide +kernel
theorem dX10_call_0 : decode cX10_call 0 = .ok (.aload_n 0, 1) := by decide +kernel
theorem dX10_call_1 : decode cX10_call 1 = .ok (.iload_n 1, 1) := by decide +kernel
theorem dX10_call_2 : decode cX10_call 2 = .ok (.invokevirtual 134, 3) := by decide +kernel
theorem dX10_call_5 : decode cX10_call 5 = .ok (.ifCond .ne 6, 3) := by decide +kernel
theorem dX10_call_8 : decode cX10_call 8 = .ok (.bipush (-2), 2) := by decide +kernel
theorem dX10_call_10 : decode cX10_call 10 = .ok (.ireturn, 1) := by decide +kernel
theorem dX10_call_11 : decode cX10_call 11 = .ok (.aload_n 0, 1) := by decide +kernel
theorem dX10_call_12 : decode cX10_call 12 = .ok (.iload_n 1, 1) := by decide +kernel
theorem dX10_call_13 : decode cX10_call 13 = .ok (.invokevirtual 238, 3) := by decide +kernel
theorem dX10_call_16 : decode cX10_call 16 = .ok (.ifCond .ne 6, 3) := by decide +kernel
theorem dX10_call_19 : decode cX10_call 19 = .ok (.bipush (-3), 2) := by decide +kernel
theorem dX10_call_21 : decode cX10_call 21 = .ok (.ireturn, 1) := by decide +kernel
theorem dX10_call_22 : decode cX10_call 22 = .ok (.aload_n 0, 1) := by decide +kernel
theorem dX10_call_23 : decode cX10_call 23 = .ok (.iconst 0, 1) := by decide +kernel
theorem dX10_call_24 : decode cX10_call 24 = .ok (.putfield 180, 3) := by decide +kernel
theorem dX10_call_27 : decode cX10_call 27 = .ok (.aload_n 0, 1) := by decide +kernel
theorem dX10_call_28 : decode cX10_call 28 = .ok (.iconst 0, 1) := by decide +kernel
theorem dX10_call_29 : decode cX10_call 29 = .ok (.putfield 191, 3) := by decide +kernel
theorem dX10_call_32 : decode cX10_call 32 = .ok (.aload_n 0, 1) := by decide +kernel
theorem dX10_call_33 : decode cX10_call 33 = .ok (.lconst 0, 1) := by decide +kernel
theorem dX10_call_34 : decode cX10_call 34 = .ok (.putfield 212, 3) := by decide +kernel
theorem dX10_call_37 : decode cX10_call 37 = .ok (.aload_n 0, 1) := by decide +kernel
theorem dX10_call_38 : decode cX10_call 38 = .ok (.iconst 0, 1) := by decide +kernel
theorem dX10_call_39 : decode cX10_call 39 = .ok (.putfield 209, 3) := by decide +kernel
theorem dX10_call_42 : decode cX10_call 42 = .ok (.aload_n 0, 1) := by decide +kernel
theorem dX10_call_43 : decode cX10_call 43 = .ok (.iload_n 1, 1) := by decide +kernel
theorem dX10_call_44 : decode cX10_call 44 = .ok (.invokevirtual 225, 3) := by decide +kernel
theorem dX10_call_47 : decode cX10_call 47 = .ok (.istore_n 2, 1) := by decide +kernel
theorem dX10_call_48 : decode cX10_call 48 = .ok (.iload_n 2, 1) := by decide +kernel
theorem dX10_call_49 : decode cX10_call 49 = .ok (.ifCond .lt 18, 3) := by decide +kernel
theorem dX10_call_52 : decode cX10_call 52 = .ok (.aload_n 0, 1) := by decide +kernel
theorem dX10_call_53 : decode cX10_call 53 = .ok (.aload_n 0, 1) := by decide +kernel
theorem dX10_call_54 : decode cX10_call 54 = .ok (.getfield 45, 3) := by decide +kernel
theorem dX10_call_57 : decode cX10_call 57 = .ok (.iload_n 2, 1) := by decide +kernel
theorem dX10_call_58 : decode cX10_call 58 = .ok (.iaload, 1) := by decide +kernel
theorem dX10_call_59 : decode cX10_call 59 = .ok (.iload_n 2, 1) := by decide +kernel
theorem dX10_call_60 : decode cX10_call 60 = .ok (.invokevirtual 241, 3) := by decide +kernel
theorem dX10_call_63 : decode cX10_call 63 = .ok (.istore_n 2, 1) := by decide +kernel
theorem dX10_call_64 : decode cX10_call 64 = .ok (.goto (-16), 3) := by decide +kernel
theorem dX10_call_67 : decode cX10_call 67 = .ok (.aload_n 0, 1) := by decide +kernel
theorem dX10_call_68 : decode cX10_call 68 = .ok (.bipush (-2), 2) := by decide +kernel
theorem dX10_call_70 : decode cX10_call 70 = .ok (.iload_n 2, 1) := by decide +kernel
theorem dX10_call_71 : decode cX10_call 71 = .ok (.isub, 1) := by decide +kernel
theorem dX10_call_72 : decode cX10_call 72 = .ok (.putfield 75, 3) := by decide +kernel
theorem dX10_call_75 : decode cX10_call 75 = .ok (.aload_n 0, 1) := by decide +kernel
theorem dX10_call_76 : decode cX10_call 76 = .ok (.getfield 75, 3) := by decide +kernel
theorem dX10_call_79 : decode cX10_call 79 = .ok (.ireturn, 1) := by decide +kernel
theorem dX10_value_0 : decode cX10_value 0 = .ok (.aload_n 0, 1) := by decide +kernel
theorem dX10_value_1 : decode cX10_value 1 = .ok (.getfield 75, 3) := by decide +kernel
theorem dX10_value_4 : decode cX10_value 4 = .ok (.ifCond .ne 10, 3) := by decide +kernel
theorem dX10_value_7 : decode cX10_value 7 = .ok (.aload_n 0, 1) := by decide +kernel
theorem dX10_value_8 : decode cX10_value 8 = .ok (.getfield 212, 3) := by decide +kernel
theorem dX10_value_11 : decode cX10_value 11 = .ok (.goto 4, 3) := by decide +kernel
theorem dX10_value_14 : decode cX10_value 14 = .ok (.lconst 0, 1) := by decide +kernel
theorem dX10_value_15 : decode cX10_value 15 = .ok (.lreturn, 1) := by decide +kernel
theorem dX10_failure_0 : decode cX10_failure 0 = .ok (.aload_n 0, 1) := by decide +kernel
theorem dX10_failure_1 : decode cX10_failure 1 = .ok (.getfield 75, 3) := by decide +kernel
theorem dX10_failure_4 : decode cX10_failure 4 = .ok (.iconst 3, 1) := by decide +kernel
theorem dX10_failure_5 : decode cX10_failure 5 = .ok (.if_icmp .ne 10, 3) := by decide +kernel
theorem dX10_failure_8 : decode cX10_failure 8 = .ok (.aload_n 0, 1) := by decide +kernel
theorem dX10_failure_9 : decode cX10_failure 9 = .ok (.getfield 209, 3) := by decide +kernel
theorem dX10_failure_12 : decode cX10_failure 12 = .ok (.goto 4, 3) := by decide +kernel
theorem dX10_failure_15 : decode cX10_failure 15 = .ok (.iconst 0, 1) := by decide +kernel
theorem dX10_failure_16 : decode cX10_failure 16 = .ok (.ireturn, 1) := by decide +kernel
theorem dX10_step_0 : decode cX10_step 0 = .ok (.iload_n 1, 1) := by decide +kernel
theorem dX10_step_1 : decode cX10_step 1 = .ok (.ifCond .lt 18, 3) := by decide +kernel
theorem dX10_step_4 : decode cX10_step 4 = .ok (.iload_n 1, 1) := by decide +kernel
theorem dX10_step_5 : decode cX10_step 5 = .ok (.aload_n 0, 1) := by decide +kernel
theorem dX10_step_6 : decode cX10_step 6 = .ok (.getfield 180, 3) := by decide +kernel
theorem dX10_step_9 : decode cX10_step 9 = .ok (.if_icmp .ge 10, 3) := by decide +kernel
theorem dX10_step_12 : decode cX10_step 12 = .ok (.iload_n 1, 1) := by decide +kernel
theorem dX10_step_13 : decode cX10_step 13 = .ok (.sipush 1000, 3) := by decide +kernel
theorem dX10_step_16 : decode cX10_step 16 = .ok (.if_icmp .lt 7, 3) := by decide +kernel
theorem dX10_step_19 : decode cX10_step 19 = .ok (.iconst (-1), 1) := by decide +kernel
theorem dX10_step_20 : decode cX10_step 20 = .ok (.goto 9, 3) := by decide +kernel
theorem dX10_step_23 : decode cX10_step 23 = .ok (.aload_n 0, 1) := by decide +kernel
theorem dX10_step_24 : decode cX10_step 24 = .ok (.getfield 79, 3) := by decide +kernel
theorem dX10_step_27 : decode cX10_step 27 = .ok (.iload_n 1, 1) := by decide +kernel
theorem dX10_step_28 : decode cX10_step 28 = .ok (.iaload, 1) := by decide +kernel
theorem dX10_step_29 : decode cX10_step 29 = .ok (.ireturn, 1) := by decide +kernel
theorem dX10_counter_0 : decode cX10_counter 0 = .ok (.iload_n 1, 1) := by decide +kernel
theorem dX10_counter_1 : decode cX10_counter 1 = .ok (.ifCond .lt 9, 3) := by decide +kernel
theorem dX10_counter_4 : decode cX10_counter 4 = .ok (.iload_n 1, 1) := by decide +kernel
theorem dX10_counter_5 : decode cX10_counter 5 = .ok (.bipush 7, 2) := by decide +kernel
theorem dX10_counter_7 : decode cX10_counter 7 = .ok (.if_icmp .le 7, 3) := by decide +kernel
theorem dX10_counter_10 : decode cX10_counter 10 = .ok (.iconst (-1), 1) := by decide +kernel
theorem dX10_counter_11 : decode cX10_counter 11 = .ok (.goto 9, 3) := by decide +kernel
theorem dX10_counter_14 : decode cX10_counter 14 = .ok (.aload_n 0, 1) := by decide +kernel
theorem dX10_counter_15 : decode cX10_counter 15 = .ok (.getfield 69, 3) := by decide +kernel
theorem dX10_counter_18 : decode cX10_counter 18 = .ok (.iload_n 1, 1) := by decide +kernel
theorem dX10_counter_19 : decode cX10_counter 19 = .ok (.iaload, 1) := by decide +kernel
theorem dX10_counter_20 : decode cX10_counter 20 = .ok (.ireturn, 1) := by decide +kernel
theorem dX10_applicable_0 : decode cX10_applicable 0 = .ok (.aload_n 0, 1) := by decide +kernel
theorem dX10_applicable_1 : decode cX10_applicable 1 = .ok (.iload_n 1, 1) := by decide +kernel
theorem dX10_applicable_2 : decode cX10_applicable 2 = .ok (.invokevirtual 134, 3) := by decide +kernel
theorem dX10_applicable_5 : decode cX10_applicable 5 = .ok (.ifCond .eq 11, 3) := by decide +kernel
theorem dX10_applicable_8 : decode cX10_applicable 8 = .ok (.aload_n 0, 1) := by decide +kernel
theorem dX10_applicable_9 : decode cX10_applicable 9 = .ok (.iload_n 1, 1) := by decide +kernel
theorem dX10_applicable_10 : decode cX10_applicable 10 = .ok (.invokevirtual 238, 3) := by decide +kernel
theorem dX10_applicable_13 : decode cX10_applicable 13 = .ok (.ifCond .ne 5, 3) := by decide +kernel
theorem dX10_applicable_16 : decode cX10_applicable 16 = .ok (.iconst (-1), 1) := by decide +kernel
theorem dX10_applicable_17 : decode cX10_applicable 17 = .ok (.ireturn, 1) := by decide +kernel
theorem dX10_applicable_18 : decode cX10_applicable 18 = .ok (.iconst 0, 1) := by decide +kernel
theorem dX10_applicable_19 : decode cX10_applicable 19 = .ok (.istore_n 3, 1) := by decide +kernel
theorem dX10_applicable_20 : decode cX10_applicable 20 = .ok (.iconst (-1), 1) := by decide +kernel
theorem dX10_applicable_21 : decode cX10_applicable 21 = .ok (.istore 4, 2) := by decide +kernel
theorem dX10_applicable_23 : decode cX10_applicable 23 = .ok (.iconst 0, 1) := by decide +kernel
theorem dX10_applicable_24 : decode cX10_applicable 24 = .ok (.istore 5, 2) := by decide +kernel
theorem dX10_applicable_26 : decode cX10_applicable 26 = .ok (.iload 5, 2) := by decide +kernel
theorem dX10_applicable_28 : decode cX10_applicable 28 = .ok (.aload_n 0, 1) := by decide +kernel
theorem dX10_applicable_29 : decode cX10_applicable 29 = .ok (.getfield 131, 3) := by decide +kernel
theorem dX10_applicable_32 : decode cX10_applicable 32 = .ok (.if_icmp .ge 37, 3) := by decide +kernel
theorem dX10_applicable_35 : decode cX10_applicable 35 = .ok (.aload_n 0, 1) := by decide +kernel
theorem dX10_applicable_36 : decode cX10_applicable 36 = .ok (.iload 5, 2) := by decide +kernel
theorem dX10_applicable_38 : decode cX10_applicable 38 = .ok (.iload_n 1, 1) := by decide +kernel
theorem dX10_applicable_39 : decode cX10_applicable 39 = .ok (.iconst (-1), 1) := by decide +kernel
theorem dX10_applicable_40 : decode cX10_applicable 40 = .ok (.invokevirtual 171, 3) := by decide +kernel
theorem dX10_applicable_43 : decode cX10_applicable 43 = .ok (.ifCond .eq 20, 3) := by decide +kernel
theorem dX10_applicable_46 : decode cX10_applicable 46 = .ok (.iload_n 3, 1) := by decide +kernel
theorem dX10_applicable_47 : decode cX10_applicable 47 = .ok (.iload_n 2, 1) := by decide +kernel
theorem dX10_applicable_48 : decode cX10_applicable 48 = .ok (.if_icmp .ne 8, 3) := by decide +kernel
theorem dX10_applicable_51 : decode cX10_applicable 51 = .ok (.iload 5, 2) := by decide +kernel
theorem dX10_applicable_53 : decode cX10_applicable 53 = .ok (.goto 5, 3) := by decide +kernel
theorem dX10_applicable_56 : decode cX10_applicable 56 = .ok (.iload 4, 2) := by decide +kernel
theorem dX10_applicable_58 : decode cX10_applicable 58 = .ok (.istore 4, 2) := by decide +kernel
theorem dX10_applicable_60 : decode cX10_applicable 60 = .ok (.iinc 3 1, 3) := by decide +kernel
theorem dX10_applicable_63 : decode cX10_applicable 63 = .ok (.iinc 5 1, 3) := by decide +kernel
theorem dX10_applicable_66 : decode cX10_applicable 66 = .ok (.goto (-40), 3) := by decide +kernel
theorem dX10_applicable_69 : decode cX10_applicable 69 = .ok (.iload 4, 2) := by decide +kernel
theorem dX10_applicable_71 : decode cX10_applicable 71 = .ok (.ireturn, 1) := by decide +kernel
theorem dX10_most_0 : decode cX10_most 0 = .ok (.aload_n 0, 1) := by decide +kernel
theorem dX10_most_1 : decode cX10_most 1 = .ok (.iload_n 1, 1) := by decide +kernel
theorem dX10_most_2 : decode cX10_most 2 = .ok (.invokevirtual 134, 3) := by decide +kernel
theorem dX10_most_5 : decode cX10_most 5 = .ok (.ifCond .eq 20, 3) := by decide +kernel
theorem dX10_most_8 : decode cX10_most 8 = .ok (.aload_n 0, 1) := by decide +kernel
theorem dX10_most_9 : decode cX10_most 9 = .ok (.iload_n 1, 1) := by decide +kernel
theorem dX10_most_10 : decode cX10_most 10 = .ok (.invokevirtual 238, 3) := by decide +kernel
theorem dX10_most_13 : decode cX10_most 13 = .ok (.ifCond .eq 12, 3) := by decide +kernel
theorem dX10_most_16 : decode cX10_most 16 = .ok (.aload_n 0, 1) := by decide +kernel
theorem dX10_most_17 : decode cX10_most 17 = .ok (.iload_n 1, 1) := by decide +kernel
theorem dX10_most_18 : decode cX10_most 18 = .ok (.iconst (-1), 1) := by decide +kernel
theorem dX10_most_19 : decode cX10_most 19 = .ok (.invokevirtual 206, 3) := by decide +kernel
theorem dX10_most_22 : decode cX10_most 22 = .ok (.goto 4, 3) := by decide +kernel
theorem dX10_most_25 : decode cX10_most 25 = .ok (.iconst (-1), 1) := by decide +kernel
theorem dX10_most_26 : decode cX10_most 26 = .ok (.ireturn, 1) := by decide +kernel
theorem dX10_moreThan_0 : decode cX10_moreThan 0 = .ok (.iconst (-1), 1) := by decide +kernel
theorem dX10_moreThan_1 : decode cX10_moreThan 1 = .ok (.istore_n 3, 1) := by decide +kernel
theorem dX10_moreThan_2 : decode cX10_moreThan 2 = .ok (.aload_n 0, 1) := by decide +kernel
theorem dX10_moreThan_3 : decode cX10_moreThan 3 = .ok (.getfield 131, 3) := by decide +kernel
theorem dX10_moreThan_6 : decode cX10_moreThan 6 = .ok (.iconst 1, 1) := by decide +kernel
theorem dX10_moreThan_7 : decode cX10_moreThan 7 = .ok (.isub, 1) := by decide +kernel
theorem dX10_moreThan_8 : decode cX10_moreThan 8 = .ok (.istore 4, 2) := by decide +kernel
theorem dX10_moreThan_10 : decode cX10_moreThan 10 = .ok (.iload 4, 2) := by decide +kernel
theorem dX10_moreThan_12 : decode cX10_moreThan 12 = .ok (.ifCond .lt 37, 3) := by decide +kernel
theorem dX10_moreThan_15 : decode cX10_moreThan 15 = .ok (.aload_n 0, 1) := by decide +kernel
theorem dX10_moreThan_16 : decode cX10_moreThan 16 = .ok (.iload 4, 2) := by decide +kernel
theorem dX10_moreThan_18 : decode cX10_moreThan 18 = .ok (.iload_n 1, 1) := by decide +kernel
theorem dX10_moreThan_19 : decode cX10_moreThan 19 = .ok (.iconst (-1), 1) := by decide +kernel
theorem dX10_moreThan_20 : decode cX10_moreThan 20 = .ok (.invokevirtual 171, 3) := by decide +kernel
theorem dX10_moreThan_23 : decode cX10_moreThan 23 = .ok (.ifCond .eq 18, 3) := by decide +kernel
theorem dX10_moreThan_26 : decode cX10_moreThan 26 = .ok (.aload_n 0, 1) := by decide +kernel
theorem dX10_moreThan_27 : decode cX10_moreThan 27 = .ok (.iload 4, 2) := by decide +kernel
theorem dX10_moreThan_29 : decode cX10_moreThan 29 = .ok (.iload_n 2, 1) := by decide +kernel
theorem dX10_moreThan_30 : decode cX10_moreThan 30 = .ok (.invokevirtual 159, 3) := by decide +kernel
theorem dX10_moreThan_33 : decode cX10_moreThan 33 = .ok (.ifCond .eq 8, 3) := by decide +kernel
theorem dX10_moreThan_36 : decode cX10_moreThan 36 = .ok (.iload 4, 2) := by decide +kernel
theorem dX10_moreThan_38 : decode cX10_moreThan 38 = .ok (.goto 4, 3) := by decide +kernel
theorem dX10_moreThan_41 : decode cX10_moreThan 41 = .ok (.iload_n 3, 1) := by decide +kernel
theorem dX10_moreThan_42 : decode cX10_moreThan 42 = .ok (.istore_n 3, 1) := by decide +kernel
theorem dX10_moreThan_43 : decode cX10_moreThan 43 = .ok (.iinc 4 (-1), 3) := by decide +kernel
theorem dX10_moreThan_46 : decode cX10_moreThan 46 = .ok (.goto (-36), 3) := by decide +kernel
theorem dX10_moreThan_49 : decode cX10_moreThan 49 = .ok (.iload_n 3, 1) := by decide +kernel
theorem dX10_moreThan_50 : decode cX10_moreThan 50 = .ok (.ireturn, 1) := by decide +kernel
theorem dX10_explain_0 : decode cX10_explain 0 = .ok (.aload_n 0, 1) := by decide +kernel
theorem dX10_explain_1 : decode cX10_explain 1 = .ok (.iload_n 1, 1) := by decide +kernel
theorem dX10_explain_2 : decode cX10_explain 2 = .ok (.invokevirtual 139, 3) := by decide +kernel
theorem dX10_explain_5 : decode cX10_explain 5 = .ok (.ifCond .ne 6, 3) := by decide +kernel
theorem dX10_explain_8 : decode cX10_explain 8 = .ok (.bipush (-2), 2) := by decide +kernel
theorem dX10_explain_10 : decode cX10_explain 10 = .ok (.ireturn, 1) := by decide +kernel
theorem dX10_explain_11 : decode cX10_explain 11 = .ok (.aload_n 0, 1) := by decide +kernel
theorem dX10_explain_12 : decode cX10_explain 12 = .ok (.getfield 45, 3) := by decide +kernel
theorem dX10_explain_15 : decode cX10_explain 15 = .ok (.iload_n 1, 1) := by decide +kernel
theorem dX10_explain_16 : decode cX10_explain 16 = .ok (.iaload, 1) := by decide +kernel
theorem dX10_explain_17 : decode cX10_explain 17 = .ok (.istore_n 2, 1) := by decide +kernel
theorem dX10_explain_18 : decode cX10_explain 18 = .ok (.aload_n 0, 1) := by decide +kernel
theorem dX10_explain_19 : decode cX10_explain 19 = .ok (.iload_n 2, 1) := by decide +kernel
theorem dX10_explain_20 : decode cX10_explain 20 = .ok (.invokevirtual 238, 3) := by decide +kernel
theorem dX10_explain_23 : decode cX10_explain 23 = .ok (.ifCond .ne 6, 3) := by decide +kernel
theorem dX10_explain_26 : decode cX10_explain 26 = .ok (.bipush (-3), 2) := by decide +kernel
theorem dX10_explain_28 : decode cX10_explain 28 = .ok (.ireturn, 1) := by decide +kernel
theorem dX10_explain_29 : decode cX10_explain 29 = .ok (.aload_n 0, 1) := by decide +kernel
theorem dX10_explain_30 : decode cX10_explain 30 = .ok (.iconst (-1), 1) := by decide +kernel
theorem dX10_explain_31 : decode cX10_explain 31 = .ok (.putfield 88, 3) := by decide +kernel
theorem dX10_explain_34 : decode cX10_explain 34 = .ok (.aload_n 0, 1) := by decide +kernel
theorem dX10_explain_35 : decode cX10_explain 35 = .ok (.iload_n 1, 1) := by decide +kernel
theorem dX10_explain_36 : decode cX10_explain 36 = .ok (.iload_n 2, 1) := by decide +kernel
theorem dX10_explain_37 : decode cX10_explain 37 = .ok (.iconst (-1), 1) := by decide +kernel
theorem dX10_explain_38 : decode cX10_explain 38 = .ok (.invokevirtual 171, 3) := by decide +kernel
theorem dX10_explain_41 : decode cX10_explain 41 = .ok (.ifCond .eq 15, 3) := by decide +kernel
theorem dX10_explain_44 : decode cX10_explain 44 = .ok (.aload_n 0, 1) := by decide +kernel
theorem dX10_explain_45 : decode cX10_explain 45 = .ok (.iload_n 2, 1) := by decide +kernel
theorem dX10_explain_46 : decode cX10_explain 46 = .ok (.iconst (-1), 1) := by decide +kernel
theorem dX10_explain_47 : decode cX10_explain 47 = .ok (.invokevirtual 206, 3) := by decide +kernel
theorem dX10_explain_50 : decode cX10_explain 50 = .ok (.iload_n 1, 1) := by decide +kernel
theorem dX10_explain_51 : decode cX10_explain 51 = .ok (.if_icmp .ne 5, 3) := by decide +kernel
theorem dX10_explain_54 : decode cX10_explain 54 = .ok (.iconst 0, 1) := by decide +kernel
theorem dX10_explain_55 : decode cX10_explain 55 = .ok (.ireturn, 1) := by decide +kernel
theorem dX10_explain_56 : decode cX10_explain 56 = .ok (.aload_n 0, 1) := by decide +kernel
theorem dX10_explain_57 : decode cX10_explain 57 = .ok (.getfield 57, 3) := by decide +kernel
theorem dX10_explain_60 : decode cX10_explain 60 = .ok (.iload_n 1, 1) := by decide +kernel
theorem dX10_explain_61 : decode cX10_explain 61 = .ok (.iaload, 1) := by decide +kernel
theorem dX10_explain_62 : decode cX10_explain 62 = .ok (.iconst 1, 1) := by decide +kernel
theorem dX10_explain_63 : decode cX10_explain 63 = .ok (.if_icmp .ne 12, 3) := by decide +kernel
theorem dX10_explain_66 : decode cX10_explain 66 = .ok (.aload_n 0, 1) := by decide +kernel
theorem dX10_explain_67 : decode cX10_explain 67 = .ok (.getfield 54, 3) := by decide +kernel
theorem dX10_explain_70 : decode cX10_explain 70 = .ok (.iload_n 1, 1) := by decide +kernel
theorem dX10_explain_71 : decode cX10_explain 71 = .ok (.baload, 1) := by decide +kernel
theorem dX10_explain_72 : decode cX10_explain 72 = .ok (.ifCond .eq 19, 3) := by decide +kernel
theorem dX10_explain_75 : decode cX10_explain 75 = .ok (.aload_n 0, 1) := by decide +kernel
theorem dX10_explain_76 : decode cX10_explain 76 = .ok (.getfield 57, 3) := by decide +kernel
theorem dX10_explain_79 : decode cX10_explain 79 = .ok (.iload_n 1, 1) := by decide +kernel
theorem dX10_explain_80 : decode cX10_explain 80 = .ok (.iaload, 1) := by decide +kernel
theorem dX10_explain_81 : decode cX10_explain 81 = .ok (.iconst 1, 1) := by decide +kernel
theorem dX10_explain_82 : decode cX10_explain 82 = .ok (.if_icmp .eq 7, 3) := by decide +kernel
theorem dX10_explain_85 : decode cX10_explain 85 = .ok (.iconst 1, 1) := by decide +kernel
theorem dX10_explain_86 : decode cX10_explain 86 = .ok (.goto 4, 3) := by decide +kernel
theorem dX10_explain_89 : decode cX10_explain 89 = .ok (.iconst 2, 1) := by decide +kernel
theorem dX10_explain_90 : decode cX10_explain 90 = .ok (.ireturn, 1) := by decide +kernel
theorem dX10_explain_91 : decode cX10_explain 91 = .ok (.aload_n 0, 1) := by decide +kernel
theorem dX10_explain_92 : decode cX10_explain 92 = .ok (.iload_n 1, 1) := by decide +kernel
theorem dX10_explain_93 : decode cX10_explain 93 = .ok (.invokevirtual 168, 3) := by decide +kernel
theorem dX10_explain_96 : decode cX10_explain 96 = .ok (.ifCond .ne 23, 3) := by decide +kernel
theorem dX10_explain_99 : decode cX10_explain 99 = .ok (.aload_n 0, 1) := by decide +kernel
theorem dX10_explain_100 : decode cX10_explain 100 = .ok (.aload_n 0, 1) := by decide +kernel
theorem dX10_explain_101 : decode cX10_explain 101 = .ok (.iload_n 1, 1) := by decide +kernel
theorem dX10_explain_102 : decode cX10_explain 102 = .ok (.iconst 0, 1) := by decide +kernel
theorem dX10_explain_103 : decode cX10_explain 103 = .ok (.invokevirtual 165, 3) := by decide +kernel
theorem dX10_explain_106 : decode cX10_explain 106 = .ok (.ifCond .eq 7, 3) := by decide +kernel
theorem dX10_explain_109 : decode cX10_explain 109 = .ok (.iconst 1, 1) := by decide +kernel
theorem dX10_explain_110 : decode cX10_explain 110 = .ok (.goto 4, 3) := by decide +kernel
theorem dX10_explain_113 : decode cX10_explain 113 = .ok (.iconst 0, 1) := by decide +kernel
theorem dX10_explain_114 : decode cX10_explain 114 = .ok (.putfield 88, 3) := by decide +kernel
theorem dX10_explain_117 : decode cX10_explain 117 = .ok (.iconst 3, 1) := by decide +kernel
theorem dX10_explain_118 : decode cX10_explain 118 = .ok (.ireturn, 1) := by decide +kernel
theorem dX10_explain_119 : decode cX10_explain 119 = .ok (.aload_n 0, 1) := by decide +kernel
theorem dX10_explain_120 : decode cX10_explain 120 = .ok (.aload_n 0, 1) := by decide +kernel
theorem dX10_explain_121 : decode cX10_explain 121 = .ok (.iload_n 2, 1) := by decide +kernel
theorem dX10_explain_122 : decode cX10_explain 122 = .ok (.iload_n 1, 1) := by decide +kernel
theorem dX10_explain_123 : decode cX10_explain 123 = .ok (.invokevirtual 244, 3) := by decide +kernel
theorem dX10_explain_126 : decode cX10_explain 126 = .ok (.putfield 88, 3) := by decide +kernel
theorem dX10_explain_129 : decode cX10_explain 129 = .ok (.aload_n 0, 1) := by decide +kernel
theorem dX10_explain_130 : decode cX10_explain 130 = .ok (.getfield 88, 3) := by decide +kernel
theorem dX10_explain_133 : decode cX10_explain 133 = .ok (.ifCond .lt 5, 3) := by decide +kernel
theorem dX10_explain_136 : decode cX10_explain 136 = .ok (.iconst 4, 1) := by decide +kernel
theorem dX10_explain_137 : decode cX10_explain 137 = .ok (.ireturn, 1) := by decide +kernel
theorem dX10_explain_138 : decode cX10_explain 138 = .ok (.aload_n 0, 1) := by decide +kernel
theorem dX10_explain_139 : decode cX10_explain 139 = .ok (.getfield 131, 3) := by decide +kernel
theorem dX10_explain_142 : decode cX10_explain 142 = .ok (.iconst 1, 1) := by decide +kernel
theorem dX10_explain_143 : decode cX10_explain 143 = .ok (.isub, 1) := by decide +kernel
theorem dX10_explain_144 : decode cX10_explain 144 = .ok (.istore_n 3, 1) := by decide +kernel
theorem dX10_explain_145 : decode cX10_explain 145 = .ok (.iload_n 3, 1) := by decide +kernel
theorem dX10_explain_146 : decode cX10_explain 146 = .ok (.ifCond .lt 45, 3) := by decide +kernel
theorem dX10_explain_149 : decode cX10_explain 149 = .ok (.aload_n 0, 1) := by decide +kernel
theorem dX10_explain_150 : decode cX10_explain 150 = .ok (.iload_n 3, 1) := by decide +kernel
theorem dX10_explain_151 : decode cX10_explain 151 = .ok (.iload_n 1, 1) := by decide +kernel
theorem dX10_explain_152 : decode cX10_explain 152 = .ok (.if_icmp .eq 26, 3) := by decide +kernel
theorem dX10_explain_155 : decode cX10_explain 155 = .ok (.aload_n 0, 1) := by decide +kernel
theorem dX10_explain_156 : decode cX10_explain 156 = .ok (.iload_n 3, 1) := by decide +kernel
theorem dX10_explain_157 : decode cX10_explain 157 = .ok (.iload_n 2, 1) := by decide +kernel
theorem dX10_explain_158 : decode cX10_explain 158 = .ok (.iconst (-1), 1) := by decide +kernel
theorem dX10_explain_159 : decode cX10_explain 159 = .ok (.invokevirtual 171, 3) := by decide +kernel
theorem dX10_explain_162 : decode cX10_explain 162 = .ok (.ifCond .eq 16, 3) := by decide +kernel
theorem dX10_explain_165 : decode cX10_explain 165 = .ok (.aload_n 0, 1) := by decide +kernel
theorem dX10_explain_166 : decode cX10_explain 166 = .ok (.iload_n 1, 1) := by decide +kernel
theorem dX10_explain_167 : decode cX10_explain 167 = .ok (.iload_n 3, 1) := by decide +kernel
theorem dX10_explain_168 : decode cX10_explain 168 = .ok (.invokevirtual 159, 3) := by decide +kernel
theorem dX10_explain_171 : decode cX10_explain 171 = .ok (.ifCond .ne 7, 3) := by decide +kernel
theorem dX10_explain_174 : decode cX10_explain 174 = .ok (.iload_n 3, 1) := by decide +kernel
theorem dX10_explain_175 : decode cX10_explain 175 = .ok (.goto 7, 3) := by decide +kernel
theorem dX10_explain_178 : decode cX10_explain 178 = .ok (.aload_n 0, 1) := by decide +kernel
theorem dX10_explain_179 : decode cX10_explain 179 = .ok (.getfield 88, 3) := by decide +kernel
theorem dX10_explain_182 : decode cX10_explain 182 = .ok (.putfield 88, 3) := by decide +kernel
theorem dX10_explain_185 : decode cX10_explain 185 = .ok (.iinc 3 (-1), 3) := by decide +kernel
theorem dX10_explain_188 : decode cX10_explain 188 = .ok (.goto (-43), 3) := by decide +kernel
theorem dX10_explain_191 : decode cX10_explain 191 = .ok (.iconst 5, 1) := by decide +kernel
theorem dX10_explain_192 : decode cX10_explain 192 = .ok (.ireturn, 1) := by decide +kernel
theorem dX10_where_0 : decode cX10_where 0 = .ok (.aload_n 0, 1) := by decide +kernel
theorem dX10_where_1 : decode cX10_where 1 = .ok (.getfield 88, 3) := by decide +kernel
theorem dX10_where_4 : decode cX10_where 4 = .ok (.ireturn, 1) := by decide +kernel
theorem dX10_countAll_0 : decode cX10_countAll 0 = .ok (.iload_n 1, 1) := by decide +kernel
theorem dX10_countAll_1 : decode cX10_countAll 1 = .ok (.tableswitch 68 0 4 #[35, 40, 45, 58, 63], 35) := by decide +kernel
theorem dX10_countAll_36 : decode cX10_countAll 36 = .ok (.aload_n 0, 1) := by decide +kernel
theorem dX10_countAll_37 : decode cX10_countAll 37 = .ok (.getfield 128, 3) := by decide +kernel
theorem dX10_countAll_40 : decode cX10_countAll 40 = .ok (.ireturn, 1) := by decide +kernel
theorem dX10_countAll_41 : decode cX10_countAll 41 = .ok (.aload_n 0, 1) := by decide +kernel
theorem dX10_countAll_42 : decode cX10_countAll 42 = .ok (.getfield 131, 3) := by decide +kernel
theorem dX10_countAll_45 : decode cX10_countAll 45 = .ok (.ireturn, 1) := by decide +kernel
theorem dX10_countAll_46 : decode cX10_countAll 46 = .ok (.aload_n 0, 1) := by decide +kernel
theorem dX10_countAll_47 : decode cX10_countAll 47 = .ok (.getfield 110, 3) := by decide +kernel
theorem dX10_countAll_50 : decode cX10_countAll 50 = .ok (.ifCond .eq 7, 3) := by decide +kernel
theorem dX10_countAll_53 : decode cX10_countAll 53 = .ok (.iconst 1, 1) := by decide +kernel
theorem dX10_countAll_54 : decode cX10_countAll 54 = .ok (.goto 4, 3) := by decide +kernel
theorem dX10_countAll_57 : decode cX10_countAll 57 = .ok (.iconst 0, 1) := by decide +kernel
theorem dX10_countAll_58 : decode cX10_countAll 58 = .ok (.ireturn, 1) := by decide +kernel
theorem dX10_countAll_59 : decode cX10_countAll 59 = .ok (.aload_n 0, 1) := by decide +kernel
theorem dX10_countAll_60 : decode cX10_countAll 60 = .ok (.getfield 180, 3) := by decide +kernel
theorem dX10_countAll_63 : decode cX10_countAll 63 = .ok (.ireturn, 1) := by decide +kernel
theorem dX10_countAll_64 : decode cX10_countAll 64 = .ok (.aload_n 0, 1) := by decide +kernel
theorem dX10_countAll_65 : decode cX10_countAll 65 = .ok (.getfield 191, 3) := by decide +kernel
theorem dX10_countAll_68 : decode cX10_countAll 68 = .ok (.ireturn, 1) := by decide +kernel
theorem dX10_countAll_69 : decode cX10_countAll 69 = .ok (.bipush (-2), 2) := by decide +kernel
theorem dX10_countAll_71 : decode cX10_countAll 71 = .ok (.ireturn, 1) := by decide +kernel
theorem dX10_count_0 : decode cX10_count 0 = .ok (.iload_n 1, 1) := by decide +kernel
theorem dX10_count_1 : decode cX10_count 1 = .ok (.iconst (-1), 1) := by decide +kernel
theorem dX10_count_2 : decode cX10_count 2 = .ok (.if_icmp .ne 9, 3) := by decide +kernel
theorem dX10_count_5 : decode cX10_count 5 = .ok (.aload_n 0, 1) := by decide +kernel
theorem dX10_count_6 : decode cX10_count 6 = .ok (.iload_n 2, 1) := by decide +kernel
theorem dX10_count_7 : decode cX10_count 7 = .ok (.invokevirtual 247, 3) := by decide +kernel
theorem dX10_count_10 : decode cX10_count 10 = .ok (.ireturn, 1) := by decide +kernel
theorem dX10_count_11 : decode cX10_count 11 = .ok (.aload_n 0, 1) := by decide +kernel
theorem dX10_count_12 : decode cX10_count 12 = .ok (.iload_n 1, 1) := by decide +kernel
theorem dX10_count_13 : decode cX10_count 13 = .ok (.invokevirtual 134, 3) := by decide +kernel
theorem dX10_count_16 : decode cX10_count 16 = .ok (.ifCond .eq 12, 3) := by decide +kernel
theorem dX10_count_19 : decode cX10_count 19 = .ok (.iload_n 2, 1) := by decide +kernel
theorem dX10_count_20 : decode cX10_count 20 = .ok (.ifCond .lt 8, 3) := by decide +kernel
theorem dX10_count_23 : decode cX10_count 23 = .ok (.iload_n 2, 1) := by decide +kernel
theorem dX10_count_24 : decode cX10_count 24 = .ok (.iconst 4, 1) := by decide +kernel
theorem dX10_count_25 : decode cX10_count 25 = .ok (.if_icmp .le 6, 3) := by decide +kernel
theorem dX10_count_28 : decode cX10_count 28 = .ok (.bipush (-2), 2) := by decide +kernel
theorem dX10_count_30 : decode cX10_count 30 = .ok (.ireturn, 1) := by decide +kernel
theorem dX10_count_31 : decode cX10_count 31 = .ok (.iload_n 2, 1) := by decide +kernel
theorem dX10_count_32 : decode cX10_count 32 = .ok (.ifCond .ne 12, 3) := by decide +kernel
theorem dX10_count_35 : decode cX10_count 35 = .ok (.aload_n 0, 1) := by decide +kernel
theorem dX10_count_36 : decode cX10_count 36 = .ok (.getfield 29, 3) := by decide +kernel
theorem dX10_count_39 : decode cX10_count 39 = .ok (.iload_n 1, 1) := by decide +kernel
theorem dX10_count_40 : decode cX10_count 40 = .ok (.iaload, 1) := by decide +kernel
theorem dX10_count_41 : decode cX10_count 41 = .ok (.goto 58, 3) := by decide +kernel
theorem dX10_count_44 : decode cX10_count 44 = .ok (.iload_n 2, 1) := by decide +kernel
theorem dX10_count_45 : decode cX10_count 45 = .ok (.iconst 1, 1) := by decide +kernel
theorem dX10_count_46 : decode cX10_count 46 = .ok (.if_icmp .ne 11, 3) := by decide +kernel
theorem dX10_count_49 : decode cX10_count 49 = .ok (.aload_n 0, 1) := by decide +kernel
theorem dX10_count_50 : decode cX10_count 50 = .ok (.iload_n 1, 1) := by decide +kernel
theorem dX10_count_51 : decode cX10_count 51 = .ok (.invokevirtual 155, 3) := by decide +kernel
theorem dX10_count_54 : decode cX10_count 54 = .ok (.goto 45, 3) := by decide +kernel
theorem dX10_count_57 : decode cX10_count 57 = .ok (.iload_n 2, 1) := by decide +kernel
theorem dX10_count_58 : decode cX10_count 58 = .ok (.iconst 2, 1) := by decide +kernel
theorem dX10_count_59 : decode cX10_count 59 = .ok (.if_icmp .ne 20, 3) := by decide +kernel
theorem dX10_count_62 : decode cX10_count 62 = .ok (.aload_n 0, 1) := by decide +kernel
theorem dX10_count_63 : decode cX10_count 63 = .ok (.getfield 32, 3) := by decide +kernel
theorem dX10_count_66 : decode cX10_count 66 = .ok (.iload_n 1, 1) := by decide +kernel
theorem dX10_count_67 : decode cX10_count 67 = .ok (.baload, 1) := by decide +kernel
theorem dX10_count_68 : decode cX10_count 68 = .ok (.ifCond .eq 7, 3) := by decide +kernel
theorem dX10_count_71 : decode cX10_count 71 = .ok (.iconst 1, 1) := by decide +kernel
theorem dX10_count_72 : decode cX10_count 72 = .ok (.goto 27, 3) := by decide +kernel
theorem dX10_count_75 : decode cX10_count 75 = .ok (.iconst 0, 1) := by decide +kernel
theorem dX10_count_76 : decode cX10_count 76 = .ok (.goto 23, 3) := by decide +kernel
theorem dX10_count_79 : decode cX10_count 79 = .ok (.iload_n 2, 1) := by decide +kernel
theorem dX10_count_80 : decode cX10_count 80 = .ok (.iconst 3, 1) := by decide +kernel
theorem dX10_count_81 : decode cX10_count 81 = .ok (.if_icmp .ne 12, 3) := by decide +kernel
theorem dX10_count_84 : decode cX10_count 84 = .ok (.aload_n 0, 1) := by decide +kernel
theorem dX10_count_85 : decode cX10_count 85 = .ok (.getfield 35, 3) := by decide +kernel
theorem dX10_count_88 : decode cX10_count 88 = .ok (.iload_n 1, 1) := by decide +kernel
theorem dX10_count_89 : decode cX10_count 89 = .ok (.iaload, 1) := by decide +kernel
theorem dX10_count_90 : decode cX10_count 90 = .ok (.goto 9, 3) := by decide +kernel
theorem dX10_count_93 : decode cX10_count 93 = .ok (.aload_n 0, 1) := by decide +kernel
theorem dX10_count_94 : decode cX10_count 94 = .ok (.getfield 42, 3) := by decide +kernel
theorem dX10_count_97 : decode cX10_count 97 = .ok (.iload_n 1, 1) := by decide +kernel
theorem dX10_count_98 : decode cX10_count 98 = .ok (.iaload, 1) := by decide +kernel
theorem dX10_count_99 : decode cX10_count 99 = .ok (.ireturn, 1) := by decide +kernel
theorem dX10_findEdges_0 : decode cX10_findEdges 0 = .ok (.iconst 1, 1) := by decide +kernel
theorem dX10_findEdges_1 : decode cX10_findEdges 1 = .ok (.istore_n 3, 1) := by decide +kernel
theorem dX10_findEdges_2 : decode cX10_findEdges 2 = .ok (.aload_n 0, 1) := by decide +kernel
theorem dX10_findEdges_3 : decode cX10_findEdges 3 = .ok (.getfield 94, 3) := by decide +kernel
theorem dX10_findEdges_6 : decode cX10_findEdges 6 = .ok (.bipush 34, 2) := by decide +kernel
theorem dX10_findEdges_8 : decode cX10_findEdges 8 = .ok (.iload_n 2, 1) := by decide +kernel
theorem dX10_findEdges_9 : decode cX10_findEdges 9 = .ok (.imul, 1) := by decide +kernel
theorem dX10_findEdges_10 : decode cX10_findEdges 10 = .ok (.ldc2_w 250, 3) := by decide +kernel
theorem dX10_findEdges_13 : decode cX10_findEdges 13 = .ok (.lastore, 1) := by decide +kernel
theorem dX10_findEdges_14 : decode cX10_findEdges 14 = .ok (.ldc2_w 250, 3) := by decide +kernel
theorem dX10_findEdges_17 : decode cX10_findEdges 17 = .ok (.lstore 4, 2) := by decide +kernel
theorem dX10_findEdges_19 : decode cX10_findEdges 19 = .ok (.iconst 1, 1) := by decide +kernel
theorem dX10_findEdges_20 : decode cX10_findEdges 20 = .ok (.istore 6, 2) := by decide +kernel
theorem dX10_findEdges_22 : decode cX10_findEdges 22 = .ok (.iload 6, 2) := by decide +kernel
theorem dX10_findEdges_24 : decode cX10_findEdges 24 = .ok (.ifCond .eq 160, 3) := by decide +kernel
theorem dX10_findEdges_27 : decode cX10_findEdges 27 = .ok (.ldc2_w 174, 3) := by decide +kernel
theorem dX10_findEdges_30 : decode cX10_findEdges 30 = .ok (.lstore 7, 2) := by decide +kernel
theorem dX10_findEdges_32 : decode cX10_findEdges 32 = .ok (.iconst 0, 1) := by decide +kernel
theorem dX10_findEdges_33 : decode cX10_findEdges 33 = .ok (.istore 9, 2) := by decide +kernel
theorem dX10_findEdges_35 : decode cX10_findEdges 35 = .ok (.iload 9, 2) := by decide +kernel
theorem dX10_findEdges_37 : decode cX10_findEdges 37 = .ok (.aload_n 0, 1) := by decide +kernel
theorem dX10_findEdges_38 : decode cX10_findEdges 38 = .ok (.getfield 131, 3) := by decide +kernel
theorem dX10_findEdges_41 : decode cX10_findEdges 41 = .ok (.if_icmp .ge 99, 3) := by decide +kernel
theorem dX10_findEdges_44 : decode cX10_findEdges 44 = .ok (.aload_n 0, 1) := by decide +kernel
theorem dX10_findEdges_45 : decode cX10_findEdges 45 = .ok (.iload 9, 2) := by decide +kernel
theorem dX10_findEdges_47 : decode cX10_findEdges 47 = .ok (.iload_n 1, 1) := by decide +kernel
theorem dX10_findEdges_48 : decode cX10_findEdges 48 = .ok (.invokevirtual 145, 3) := by decide +kernel
theorem dX10_findEdges_51 : decode cX10_findEdges 51 = .ok (.ifCond .eq 83, 3) := by decide +kernel
theorem dX10_findEdges_54 : decode cX10_findEdges 54 = .ok (.aload_n 0, 1) := by decide +kernel
theorem dX10_findEdges_55 : decode cX10_findEdges 55 = .ok (.getfield 63, 3) := by decide +kernel
theorem dX10_findEdges_58 : decode cX10_findEdges 58 = .ok (.iconst 2, 1) := by decide +kernel
theorem dX10_findEdges_59 : decode cX10_findEdges 59 = .ok (.iload 9, 2) := by decide +kernel
theorem dX10_findEdges_61 : decode cX10_findEdges 61 = .ok (.imul, 1) := by decide +kernel
theorem dX10_findEdges_62 : decode cX10_findEdges 62 = .ok (.iload_n 2, 1) := by decide +kernel
theorem dX10_findEdges_63 : decode cX10_findEdges 63 = .ok (.iadd, 1) := by decide +kernel
theorem dX10_findEdges_64 : decode cX10_findEdges 64 = .ok (.iaload, 1) := by decide +kernel
theorem dX10_findEdges_65 : decode cX10_findEdges 65 = .ok (.i2l, 1) := by decide +kernel
theorem dX10_findEdges_66 : decode cX10_findEdges 66 = .ok (.lstore 10, 2) := by decide +kernel
theorem dX10_findEdges_68 : decode cX10_findEdges 68 = .ok (.aload_n 0, 1) := by decide +kernel
theorem dX10_findEdges_69 : decode cX10_findEdges 69 = .ok (.getfield 66, 3) := by decide +kernel
theorem dX10_findEdges_72 : decode cX10_findEdges 72 = .ok (.iconst 2, 1) := by decide +kernel
theorem dX10_findEdges_73 : decode cX10_findEdges 73 = .ok (.iload 9, 2) := by decide +kernel
theorem dX10_findEdges_75 : decode cX10_findEdges 75 = .ok (.imul, 1) := by decide +kernel
theorem dX10_findEdges_76 : decode cX10_findEdges 76 = .ok (.iload_n 2, 1) := by decide +kernel
theorem dX10_findEdges_77 : decode cX10_findEdges 77 = .ok (.iadd, 1) := by decide +kernel
theorem dX10_findEdges_78 : decode cX10_findEdges 78 = .ok (.iaload, 1) := by decide +kernel
theorem dX10_findEdges_79 : decode cX10_findEdges 79 = .ok (.i2l, 1) := by decide +kernel
theorem dX10_findEdges_80 : decode cX10_findEdges 80 = .ok (.lconst 1, 1) := by decide +kernel
theorem dX10_findEdges_81 : decode cX10_findEdges 81 = .ok (.ladd, 1) := by decide +kernel
theorem dX10_findEdges_82 : decode cX10_findEdges 82 = .ok (.lstore 12, 2) := by decide +kernel
theorem dX10_findEdges_84 : decode cX10_findEdges 84 = .ok (.lload 10, 2) := by decide +kernel
theorem dX10_findEdges_86 : decode cX10_findEdges 86 = .ok (.lload 4, 2) := by decide +kernel
theorem dX10_findEdges_88 : decode cX10_findEdges 88 = .ok (.lcmp, 1) := by decide +kernel
theorem dX10_findEdges_89 : decode cX10_findEdges 89 = .ok (.ifCond .le 16, 3) := by decide +kernel
theorem dX10_findEdges_92 : decode cX10_findEdges 92 = .ok (.lload 10, 2) := by decide +kernel
theorem dX10_findEdges_94 : decode cX10_findEdges 94 = .ok (.lload 7, 2) := by decide +kernel
theorem dX10_findEdges_96 : decode cX10_findEdges 96 = .ok (.lcmp, 1) := by decide +kernel
theorem dX10_findEdges_97 : decode cX10_findEdges 97 = .ok (.ifCond .ge 8, 3) := by decide +kernel
theorem dX10_findEdges_100 : decode cX10_findEdges 100 = .ok (.lload 10, 2) := by decide +kernel
theorem dX10_findEdges_102 : decode cX10_findEdges 102 = .ok (.goto 5, 3) := by decide +kernel
theorem dX10_findEdges_105 : decode cX10_findEdges 105 = .ok (.lload 7, 2) := by decide +kernel
theorem dX10_findEdges_107 : decode cX10_findEdges 107 = .ok (.lstore 7, 2) := by decide +kernel
theorem dX10_findEdges_109 : decode cX10_findEdges 109 = .ok (.lload 12, 2) := by decide +kernel
theorem dX10_findEdges_111 : decode cX10_findEdges 111 = .ok (.lload 4, 2) := by decide +kernel
theorem dX10_findEdges_113 : decode cX10_findEdges 113 = .ok (.lcmp, 1) := by decide +kernel
theorem dX10_findEdges_114 : decode cX10_findEdges 114 = .ok (.ifCond .le 16, 3) := by decide +kernel
theorem dX10_findEdges_117 : decode cX10_findEdges 117 = .ok (.lload 12, 2) := by decide +kernel
theorem dX10_findEdges_119 : decode cX10_findEdges 119 = .ok (.lload 7, 2) := by decide +kernel
theorem dX10_findEdges_121 : decode cX10_findEdges 121 = .ok (.lcmp, 1) := by decide +kernel
theorem dX10_findEdges_122 : decode cX10_findEdges 122 = .ok (.ifCond .ge 8, 3) := by decide +kernel
theorem dX10_findEdges_125 : decode cX10_findEdges 125 = .ok (.lload 12, 2) := by decide +kernel
theorem dX10_findEdges_127 : decode cX10_findEdges 127 = .ok (.goto 5, 3) := by decide +kernel
theorem dX10_findEdges_130 : decode cX10_findEdges 130 = .ok (.lload 7, 2) := by decide +kernel
theorem dX10_findEdges_132 : decode cX10_findEdges 132 = .ok (.lstore 7, 2) := by decide +kernel
theorem dX10_findEdges_134 : decode cX10_findEdges 134 = .ok (.iinc 9 1, 3) := by decide +kernel
theorem dX10_findEdges_137 : decode cX10_findEdges 137 = .ok (.goto (-102), 3) := by decide +kernel
theorem dX10_findEdges_140 : decode cX10_findEdges 140 = .ok (.lload 7, 2) := by decide +kernel
theorem dX10_findEdges_142 : decode cX10_findEdges 142 = .ok (.ldc2_w 174, 3) := by decide +kernel
theorem dX10_findEdges_145 : decode cX10_findEdges 145 = .ok (.lcmp, 1) := by decide +kernel
theorem dX10_findEdges_146 : decode cX10_findEdges 146 = .ok (.ifCond .ge 7, 3) := by decide +kernel
theorem dX10_findEdges_149 : decode cX10_findEdges 149 = .ok (.iconst 1, 1) := by decide +kernel
theorem dX10_findEdges_150 : decode cX10_findEdges 150 = .ok (.goto 4, 3) := by decide +kernel
theorem dX10_findEdges_153 : decode cX10_findEdges 153 = .ok (.iconst 0, 1) := by decide +kernel
theorem dX10_findEdges_154 : decode cX10_findEdges 154 = .ok (.istore 6, 2) := by decide +kernel
theorem dX10_findEdges_156 : decode cX10_findEdges 156 = .ok (.iload 6, 2) := by decide +kernel
theorem dX10_findEdges_158 : decode cX10_findEdges 158 = .ok (.ifCond .eq 23, 3) := by decide +kernel
theorem dX10_findEdges_161 : decode cX10_findEdges 161 = .ok (.aload_n 0, 1) := by decide +kernel
theorem dX10_findEdges_162 : decode cX10_findEdges 162 = .ok (.getfield 94, 3) := by decide +kernel
theorem dX10_findEdges_165 : decode cX10_findEdges 165 = .ok (.bipush 34, 2) := by decide +kernel
theorem dX10_findEdges_167 : decode cX10_findEdges 167 = .ok (.iload_n 2, 1) := by decide +kernel
theorem dX10_findEdges_168 : decode cX10_findEdges 168 = .ok (.imul, 1) := by decide +kernel
theorem dX10_findEdges_169 : decode cX10_findEdges 169 = .ok (.iload_n 3, 1) := by decide +kernel
theorem dX10_findEdges_170 : decode cX10_findEdges 170 = .ok (.iadd, 1) := by decide +kernel
theorem dX10_findEdges_171 : decode cX10_findEdges 171 = .ok (.lload 7, 2) := by decide +kernel
theorem dX10_findEdges_173 : decode cX10_findEdges 173 = .ok (.lastore, 1) := by decide +kernel
theorem dX10_findEdges_174 : decode cX10_findEdges 174 = .ok (.iinc 3 1, 3) := by decide +kernel
theorem dX10_findEdges_177 : decode cX10_findEdges 177 = .ok (.lload 7, 2) := by decide +kernel
theorem dX10_findEdges_179 : decode cX10_findEdges 179 = .ok (.lstore 4, 2) := by decide +kernel
theorem dX10_findEdges_181 : decode cX10_findEdges 181 = .ok (.goto (-159), 3) := by decide +kernel
theorem dX10_findEdges_184 : decode cX10_findEdges 184 = .ok (.aload_n 0, 1) := by decide +kernel
theorem dX10_findEdges_185 : decode cX10_findEdges 185 = .ok (.getfield 97, 3) := by decide +kernel
theorem dX10_findEdges_188 : decode cX10_findEdges 188 = .ok (.iload_n 2, 1) := by decide +kernel
theorem dX10_findEdges_189 : decode cX10_findEdges 189 = .ok (.iload_n 3, 1) := by decide +kernel
theorem dX10_findEdges_190 : decode cX10_findEdges 190 = .ok (.iastore, 1) := by decide +kernel
theorem dX10_findEdges_191 : decode cX10_findEdges 191 = .ok (.return_, 1) := by decide +kernel
theorem dX10_nextClass_0 : decode cX10_nextClass 0 = .ok (.iload_n 1, 1) := by decide +kernel
theorem dX10_nextClass_1 : decode cX10_nextClass 1 = .ok (.istore_n 2, 1) := by decide +kernel
theorem dX10_nextClass_2 : decode cX10_nextClass 2 = .ok (.iload_n 2, 1) := by decide +kernel
theorem dX10_nextClass_3 : decode cX10_nextClass 3 = .ok (.bipush 12, 2) := by decide +kernel
theorem dX10_nextClass_5 : decode cX10_nextClass 5 = .ok (.if_icmp .ge 18, 3) := by decide +kernel
theorem dX10_nextClass_8 : decode cX10_nextClass 8 = .ok (.aload_n 0, 1) := by decide +kernel
theorem dX10_nextClass_9 : decode cX10_nextClass 9 = .ok (.getfield 20, 3) := by decide +kernel
theorem dX10_nextClass_12 : decode cX10_nextClass 12 = .ok (.iload_n 2, 1) := by decide +kernel
theorem dX10_nextClass_13 : decode cX10_nextClass 13 = .ok (.baload, 1) := by decide +kernel
theorem dX10_nextClass_14 : decode cX10_nextClass 14 = .ok (.ifCond .eq 9, 3) := by decide +kernel
theorem dX10_nextClass_17 : decode cX10_nextClass 17 = .ok (.iinc 2 1, 3) := by decide +kernel
theorem dX10_nextClass_20 : decode cX10_nextClass 20 = .ok (.goto (-18), 3) := by decide +kernel
theorem dX10_nextClass_23 : decode cX10_nextClass 23 = .ok (.iload_n 2, 1) := by decide +kernel
theorem dX10_nextClass_24 : decode cX10_nextClass 24 = .ok (.ireturn, 1) := by decide +kernel
theorem dX10_firstTuple_0 : decode cX10_firstTuple 0 = .ok (.iconst 0, 1) := by decide +kernel
theorem dX10_firstTuple_1 : decode cX10_firstTuple 1 = .ok (.istore_n 2, 1) := by decide +kernel
theorem dX10_firstTuple_2 : decode cX10_firstTuple 2 = .ok (.iload_n 2, 1) := by decide +kernel
theorem dX10_firstTuple_3 : decode cX10_firstTuple 3 = .ok (.iconst 2, 1) := by decide +kernel
theorem dX10_firstTuple_4 : decode cX10_firstTuple 4 = .ok (.if_icmp .ge 80, 3) := by decide +kernel
theorem dX10_firstTuple_7 : decode cX10_firstTuple 7 = .ok (.aload_n 0, 1) := by decide +kernel
theorem dX10_firstTuple_8 : decode cX10_firstTuple 8 = .ok (.getfield 82, 3) := by decide +kernel
theorem dX10_firstTuple_11 : decode cX10_firstTuple 11 = .ok (.iload_n 2, 1) := by decide +kernel
theorem dX10_firstTuple_12 : decode cX10_firstTuple 12 = .ok (.iload_n 2, 1) := by decide +kernel
theorem dX10_firstTuple_13 : decode cX10_firstTuple 13 = .ok (.aload_n 0, 1) := by decide +kernel
theorem dX10_firstTuple_14 : decode cX10_firstTuple 14 = .ok (.getfield 29, 3) := by decide +kernel
theorem dX10_firstTuple_17 : decode cX10_firstTuple 17 = .ok (.iload_n 1, 1) := by decide +kernel
theorem dX10_firstTuple_18 : decode cX10_firstTuple 18 = .ok (.iaload, 1) := by decide +kernel
theorem dX10_firstTuple_19 : decode cX10_firstTuple 19 = .ok (.if_icmp .ge 11, 3) := by decide +kernel
theorem dX10_firstTuple_22 : decode cX10_firstTuple 22 = .ok (.aload_n 0, 1) := by decide +kernel
theorem dX10_firstTuple_23 : decode cX10_firstTuple 23 = .ok (.iconst 0, 1) := by decide +kernel
theorem dX10_firstTuple_24 : decode cX10_firstTuple 24 = .ok (.invokevirtual 252, 3) := by decide +kernel
theorem dX10_firstTuple_27 : decode cX10_firstTuple 27 = .ok (.goto 4, 3) := by decide +kernel
theorem dX10_firstTuple_30 : decode cX10_firstTuple 30 = .ok (.iconst 0, 1) := by decide +kernel
theorem dX10_firstTuple_31 : decode cX10_firstTuple 31 = .ok (.iastore, 1) := by decide +kernel
theorem dX10_firstTuple_32 : decode cX10_firstTuple 32 = .ok (.aload_n 0, 1) := by decide +kernel
theorem dX10_firstTuple_33 : decode cX10_firstTuple 33 = .ok (.getfield 85, 3) := by decide +kernel
theorem dX10_firstTuple_36 : decode cX10_firstTuple 36 = .ok (.iload_n 2, 1) := by decide +kernel
theorem dX10_firstTuple_37 : decode cX10_firstTuple 37 = .ok (.iload_n 2, 1) := by decide +kernel
theorem dX10_firstTuple_38 : decode cX10_firstTuple 38 = .ok (.aload_n 0, 1) := by decide +kernel
theorem dX10_firstTuple_39 : decode cX10_firstTuple 39 = .ok (.getfield 29, 3) := by decide +kernel
theorem dX10_firstTuple_42 : decode cX10_firstTuple 42 = .ok (.iload_n 1, 1) := by decide +kernel
theorem dX10_firstTuple_43 : decode cX10_firstTuple 43 = .ok (.iaload, 1) := by decide +kernel
theorem dX10_firstTuple_44 : decode cX10_firstTuple 44 = .ok (.if_icmp .ge 9, 3) := by decide +kernel
theorem dX10_firstTuple_47 : decode cX10_firstTuple 47 = .ok (.ldc2_w 250, 3) := by decide +kernel
theorem dX10_firstTuple_50 : decode cX10_firstTuple 50 = .ok (.goto 4, 3) := by decide +kernel
theorem dX10_firstTuple_53 : decode cX10_firstTuple 53 = .ok (.lconst 0, 1) := by decide +kernel
theorem dX10_firstTuple_54 : decode cX10_firstTuple 54 = .ok (.lastore, 1) := by decide +kernel
theorem dX10_firstTuple_55 : decode cX10_firstTuple 55 = .ok (.aload_n 0, 1) := by decide +kernel
theorem dX10_firstTuple_56 : decode cX10_firstTuple 56 = .ok (.getfield 100, 3) := by decide +kernel
theorem dX10_firstTuple_59 : decode cX10_firstTuple 59 = .ok (.iload_n 2, 1) := by decide +kernel
theorem dX10_firstTuple_60 : decode cX10_firstTuple 60 = .ok (.iconst 0, 1) := by decide +kernel
theorem dX10_firstTuple_61 : decode cX10_firstTuple 61 = .ok (.iastore, 1) := by decide +kernel
theorem dX10_firstTuple_62 : decode cX10_firstTuple 62 = .ok (.iload_n 2, 1) := by decide +kernel
theorem dX10_firstTuple_63 : decode cX10_firstTuple 63 = .ok (.aload_n 0, 1) := by decide +kernel
theorem dX10_firstTuple_64 : decode cX10_firstTuple 64 = .ok (.getfield 29, 3) := by decide +kernel
theorem dX10_firstTuple_67 : decode cX10_firstTuple 67 = .ok (.iload_n 1, 1) := by decide +kernel
theorem dX10_firstTuple_68 : decode cX10_firstTuple 68 = .ok (.iaload, 1) := by decide +kernel
theorem dX10_firstTuple_69 : decode cX10_firstTuple 69 = .ok (.if_icmp .ge 9, 3) := by decide +kernel
theorem dX10_firstTuple_72 : decode cX10_firstTuple 72 = .ok (.aload_n 0, 1) := by decide +kernel
theorem dX10_firstTuple_73 : decode cX10_firstTuple 73 = .ok (.iload_n 1, 1) := by decide +kernel
theorem dX10_firstTuple_74 : decode cX10_firstTuple 74 = .ok (.iload_n 2, 1) := by decide +kernel
theorem dX10_firstTuple_75 : decode cX10_firstTuple 75 = .ok (.invokevirtual 255, 3) := by decide +kernel
theorem dX10_firstTuple_78 : decode cX10_firstTuple 78 = .ok (.iinc 2 1, 3) := by decide +kernel
theorem dX10_firstTuple_81 : decode cX10_firstTuple 81 = .ok (.goto (-79), 3) := by decide +kernel
theorem dX10_firstTuple_84 : decode cX10_firstTuple 84 = .ok (.aload_n 0, 1) := by decide +kernel
theorem dX10_firstTuple_85 : decode cX10_firstTuple 85 = .ok (.iconst 0, 1) := by decide +kernel
theorem dX10_firstTuple_86 : decode cX10_firstTuple 86 = .ok (.invokevirtual 252, 3) := by decide +kernel
theorem dX10_firstTuple_89 : decode cX10_firstTuple 89 = .ok (.bipush 12, 2) := by decide +kernel
theorem dX10_firstTuple_91 : decode cX10_firstTuple 91 = .ok (.if_icmp .ge 7, 3) := by decide +kernel
theorem dX10_firstTuple_94 : decode cX10_firstTuple 94 = .ok (.iconst 1, 1) := by decide +kernel
theorem dX10_firstTuple_95 : decode cX10_firstTuple 95 = .ok (.goto 4, 3) := by decide +kernel
theorem dX10_firstTuple_98 : decode cX10_firstTuple 98 = .ok (.iconst 0, 1) := by decide +kernel
theorem dX10_firstTuple_99 : decode cX10_firstTuple 99 = .ok (.ireturn, 1) := by decide +kernel
theorem dX10_nextAt_0 : decode cX10_nextAt 0 = .ok (.aload_n 0, 1) := by decide +kernel
theorem dX10_nextAt_1 : decode cX10_nextAt 1 = .ok (.getfield 29, 3) := by decide +kernel
theorem dX10_nextAt_4 : decode cX10_nextAt 4 = .ok (.iload_n 1, 1) := by decide +kernel
theorem dX10_nextAt_5 : decode cX10_nextAt 5 = .ok (.iaload, 1) := by decide +kernel
theorem dX10_nextAt_6 : decode cX10_nextAt 6 = .ok (.iconst 1, 1) := by decide +kernel
theorem dX10_nextAt_7 : decode cX10_nextAt 7 = .ok (.isub, 1) := by decide +kernel
theorem dX10_nextAt_8 : decode cX10_nextAt 8 = .ok (.istore_n 3, 1) := by decide +kernel
theorem dX10_nextAt_9 : decode cX10_nextAt 9 = .ok (.iload_n 3, 1) := by decide +kernel
theorem dX10_nextAt_10 : decode cX10_nextAt 10 = .ok (.iload_n 2, 1) := by decide +kernel
theorem dX10_nextAt_11 : decode cX10_nextAt 11 = .ok (.if_icmp .le 36, 3) := by decide +kernel
theorem dX10_nextAt_14 : decode cX10_nextAt 14 = .ok (.aload_n 0, 1) := by decide +kernel
theorem dX10_nextAt_15 : decode cX10_nextAt 15 = .ok (.getfield 82, 3) := by decide +kernel
theorem dX10_nextAt_18 : decode cX10_nextAt 18 = .ok (.iload_n 3, 1) := by decide +kernel
theorem dX10_nextAt_19 : decode cX10_nextAt 19 = .ok (.aload_n 0, 1) := by decide +kernel
theorem dX10_nextAt_20 : decode cX10_nextAt 20 = .ok (.iconst 0, 1) := by decide +kernel
theorem dX10_nextAt_21 : decode cX10_nextAt 21 = .ok (.invokevirtual 252, 3) := by decide +kernel
theorem dX10_nextAt_24 : decode cX10_nextAt 24 = .ok (.iastore, 1) := by decide +kernel
theorem dX10_nextAt_25 : decode cX10_nextAt 25 = .ok (.aload_n 0, 1) := by decide +kernel
theorem dX10_nextAt_26 : decode cX10_nextAt 26 = .ok (.getfield 85, 3) := by decide +kernel
theorem dX10_nextAt_29 : decode cX10_nextAt 29 = .ok (.iload_n 3, 1) := by decide +kernel
theorem dX10_nextAt_30 : decode cX10_nextAt 30 = .ok (.ldc2_w 250, 3) := by decide +kernel
theorem dX10_nextAt_33 : decode cX10_nextAt 33 = .ok (.lastore, 1) := by decide +kernel
theorem dX10_nextAt_34 : decode cX10_nextAt 34 = .ok (.aload_n 0, 1) := by decide +kernel
theorem dX10_nextAt_35 : decode cX10_nextAt 35 = .ok (.getfield 100, 3) := by decide +kernel
theorem dX10_nextAt_38 : decode cX10_nextAt 38 = .ok (.iload_n 3, 1) := by decide +kernel
theorem dX10_nextAt_39 : decode cX10_nextAt 39 = .ok (.iconst 0, 1) := by decide +kernel
theorem dX10_nextAt_40 : decode cX10_nextAt 40 = .ok (.iastore, 1) := by decide +kernel
theorem dX10_nextAt_41 : decode cX10_nextAt 41 = .ok (.iinc 3 (-1), 3) := by decide +kernel
theorem dX10_nextAt_44 : decode cX10_nextAt 44 = .ok (.goto (-35), 3) := by decide +kernel
theorem dX10_nextAt_47 : decode cX10_nextAt 47 = .ok (.iload_n 2, 1) := by decide +kernel
theorem dX10_nextAt_48 : decode cX10_nextAt 48 = .ok (.istore_n 3, 1) := by decide +kernel
theorem dX10_nextAt_49 : decode cX10_nextAt 49 = .ok (.iload_n 3, 1) := by decide +kernel
theorem dX10_nextAt_50 : decode cX10_nextAt 50 = .ok (.ifCond .lt 116, 3) := by decide +kernel
theorem dX10_nextAt_53 : decode cX10_nextAt 53 = .ok (.aload_n 0, 1) := by decide +kernel
theorem dX10_nextAt_54 : decode cX10_nextAt 54 = .ok (.getfield 100, 3) := by decide +kernel
theorem dX10_nextAt_57 : decode cX10_nextAt 57 = .ok (.iload_n 3, 1) := by decide +kernel
theorem dX10_nextAt_58 : decode cX10_nextAt 58 = .ok (.dup2, 1) := by decide +kernel
theorem dX10_nextAt_59 : decode cX10_nextAt 59 = .ok (.iaload, 1) := by decide +kernel
theorem dX10_nextAt_60 : decode cX10_nextAt 60 = .ok (.iconst 1, 1) := by decide +kernel
theorem dX10_nextAt_61 : decode cX10_nextAt 61 = .ok (.iadd, 1) := by decide +kernel
theorem dX10_nextAt_62 : decode cX10_nextAt 62 = .ok (.iastore, 1) := by decide +kernel
theorem dX10_nextAt_63 : decode cX10_nextAt 63 = .ok (.aload_n 0, 1) := by decide +kernel
theorem dX10_nextAt_64 : decode cX10_nextAt 64 = .ok (.getfield 100, 3) := by decide +kernel
theorem dX10_nextAt_67 : decode cX10_nextAt 67 = .ok (.iload_n 3, 1) := by decide +kernel
theorem dX10_nextAt_68 : decode cX10_nextAt 68 = .ok (.iaload, 1) := by decide +kernel
theorem dX10_nextAt_69 : decode cX10_nextAt 69 = .ok (.aload_n 0, 1) := by decide +kernel
theorem dX10_nextAt_70 : decode cX10_nextAt 70 = .ok (.getfield 97, 3) := by decide +kernel
theorem dX10_nextAt_73 : decode cX10_nextAt 73 = .ok (.iload_n 3, 1) := by decide +kernel
theorem dX10_nextAt_74 : decode cX10_nextAt 74 = .ok (.iaload, 1) := by decide +kernel
theorem dX10_nextAt_75 : decode cX10_nextAt 75 = .ok (.if_icmp .ge 27, 3) := by decide +kernel
theorem dX10_nextAt_78 : decode cX10_nextAt 78 = .ok (.aload_n 0, 1) := by decide +kernel
theorem dX10_nextAt_79 : decode cX10_nextAt 79 = .ok (.getfield 85, 3) := by decide +kernel
theorem dX10_nextAt_82 : decode cX10_nextAt 82 = .ok (.iload_n 3, 1) := by decide +kernel
theorem dX10_nextAt_83 : decode cX10_nextAt 83 = .ok (.aload_n 0, 1) := by decide +kernel
theorem dX10_nextAt_84 : decode cX10_nextAt 84 = .ok (.getfield 94, 3) := by decide +kernel
theorem dX10_nextAt_87 : decode cX10_nextAt 87 = .ok (.bipush 34, 2) := by decide +kernel
theorem dX10_nextAt_89 : decode cX10_nextAt 89 = .ok (.iload_n 3, 1) := by decide +kernel
theorem dX10_nextAt_90 : decode cX10_nextAt 90 = .ok (.imul, 1) := by decide +kernel
theorem dX10_nextAt_91 : decode cX10_nextAt 91 = .ok (.aload_n 0, 1) := by decide +kernel
theorem dX10_nextAt_92 : decode cX10_nextAt 92 = .ok (.getfield 100, 3) := by decide +kernel
theorem dX10_nextAt_95 : decode cX10_nextAt 95 = .ok (.iload_n 3, 1) := by decide +kernel
theorem dX10_nextAt_96 : decode cX10_nextAt 96 = .ok (.iaload, 1) := by decide +kernel
theorem dX10_nextAt_97 : decode cX10_nextAt 97 = .ok (.iadd, 1) := by decide +kernel
theorem dX10_nextAt_98 : decode cX10_nextAt 98 = .ok (.laload, 1) := by decide +kernel
theorem dX10_nextAt_99 : decode cX10_nextAt 99 = .ok (.lastore, 1) := by decide +kernel
theorem dX10_nextAt_100 : decode cX10_nextAt 100 = .ok (.iconst 1, 1) := by decide +kernel
theorem dX10_nextAt_101 : decode cX10_nextAt 101 = .ok (.ireturn, 1) := by decide +kernel
theorem dX10_nextAt_102 : decode cX10_nextAt 102 = .ok (.aload_n 0, 1) := by decide +kernel
theorem dX10_nextAt_103 : decode cX10_nextAt 103 = .ok (.getfield 100, 3) := by decide +kernel
theorem dX10_nextAt_106 : decode cX10_nextAt 106 = .ok (.iload_n 3, 1) := by decide +kernel
theorem dX10_nextAt_107 : decode cX10_nextAt 107 = .ok (.iconst 0, 1) := by decide +kernel
theorem dX10_nextAt_108 : decode cX10_nextAt 108 = .ok (.iastore, 1) := by decide +kernel
theorem dX10_nextAt_109 : decode cX10_nextAt 109 = .ok (.aload_n 0, 1) := by decide +kernel
theorem dX10_nextAt_110 : decode cX10_nextAt 110 = .ok (.getfield 85, 3) := by decide +kernel
theorem dX10_nextAt_113 : decode cX10_nextAt 113 = .ok (.iload_n 3, 1) := by decide +kernel
theorem dX10_nextAt_114 : decode cX10_nextAt 114 = .ok (.ldc2_w 250, 3) := by decide +kernel
theorem dX10_nextAt_117 : decode cX10_nextAt 117 = .ok (.lastore, 1) := by decide +kernel
theorem dX10_nextAt_118 : decode cX10_nextAt 118 = .ok (.aload_n 0, 1) := by decide +kernel
theorem dX10_nextAt_119 : decode cX10_nextAt 119 = .ok (.getfield 82, 3) := by decide +kernel
theorem dX10_nextAt_122 : decode cX10_nextAt 122 = .ok (.iload_n 3, 1) := by decide +kernel
theorem dX10_nextAt_123 : decode cX10_nextAt 123 = .ok (.aload_n 0, 1) := by decide +kernel
theorem dX10_nextAt_124 : decode cX10_nextAt 124 = .ok (.aload_n 0, 1) := by decide +kernel
theorem dX10_nextAt_125 : decode cX10_nextAt 125 = .ok (.getfield 82, 3) := by decide +kernel
theorem dX10_nextAt_128 : decode cX10_nextAt 128 = .ok (.iload_n 3, 1) := by decide +kernel
theorem dX10_nextAt_129 : decode cX10_nextAt 129 = .ok (.iaload, 1) := by decide +kernel
theorem dX10_nextAt_130 : decode cX10_nextAt 130 = .ok (.iconst 1, 1) := by decide +kernel
theorem dX10_nextAt_131 : decode cX10_nextAt 131 = .ok (.iadd, 1) := by decide +kernel
theorem dX10_nextAt_132 : decode cX10_nextAt 132 = .ok (.invokevirtual 252, 3) := by decide +kernel
theorem dX10_nextAt_135 : decode cX10_nextAt 135 = .ok (.iastore, 1) := by decide +kernel
theorem dX10_nextAt_136 : decode cX10_nextAt 136 = .ok (.aload_n 0, 1) := by decide +kernel
theorem dX10_nextAt_137 : decode cX10_nextAt 137 = .ok (.getfield 82, 3) := by decide +kernel
theorem dX10_nextAt_140 : decode cX10_nextAt 140 = .ok (.iload_n 3, 1) := by decide +kernel
theorem dX10_nextAt_141 : decode cX10_nextAt 141 = .ok (.iaload, 1) := by decide +kernel
theorem dX10_nextAt_142 : decode cX10_nextAt 142 = .ok (.bipush 12, 2) := by decide +kernel
theorem dX10_nextAt_144 : decode cX10_nextAt 144 = .ok (.if_icmp .ge 5, 3) := by decide +kernel
theorem dX10_nextAt_147 : decode cX10_nextAt 147 = .ok (.iconst 1, 1) := by decide +kernel
theorem dX10_nextAt_148 : decode cX10_nextAt 148 = .ok (.ireturn, 1) := by decide +kernel
theorem dX10_nextAt_149 : decode cX10_nextAt 149 = .ok (.aload_n 0, 1) := by decide +kernel
theorem dX10_nextAt_150 : decode cX10_nextAt 150 = .ok (.getfield 82, 3) := by decide +kernel
theorem dX10_nextAt_153 : decode cX10_nextAt 153 = .ok (.iload_n 3, 1) := by decide +kernel
theorem dX10_nextAt_154 : decode cX10_nextAt 154 = .ok (.aload_n 0, 1) := by decide +kernel
theorem dX10_nextAt_155 : decode cX10_nextAt 155 = .ok (.iconst 0, 1) := by decide +kernel
theorem dX10_nextAt_156 : decode cX10_nextAt 156 = .ok (.invokevirtual 252, 3) := by decide +kernel
theorem dX10_nextAt_159 : decode cX10_nextAt 159 = .ok (.iastore, 1) := by decide +kernel
theorem dX10_nextAt_160 : decode cX10_nextAt 160 = .ok (.iinc 3 (-1), 3) := by decide +kernel
theorem dX10_nextAt_163 : decode cX10_nextAt 163 = .ok (.goto (-114), 3) := by decide +kernel
theorem dX10_nextAt_166 : decode cX10_nextAt 166 = .ok (.iconst 0, 1) := by decide +kernel
theorem dX10_nextAt_167 : decode cX10_nextAt 167 = .ok (.ireturn, 1) := by decide +kernel
theorem dX10_nextTuple_0 : decode cX10_nextTuple 0 = .ok (.aload_n 0, 1) := by decide +kernel
theorem dX10_nextTuple_1 : decode cX10_nextTuple 1 = .ok (.iload_n 1, 1) := by decide +kernel
theorem dX10_nextTuple_2 : decode cX10_nextTuple 2 = .ok (.aload_n 0, 1) := by decide +kernel
theorem dX10_nextTuple_3 : decode cX10_nextTuple 3 = .ok (.getfield 29, 3) := by decide +kernel
theorem dX10_nextTuple_6 : decode cX10_nextTuple 6 = .ok (.iload_n 1, 1) := by decide +kernel
theorem dX10_nextTuple_7 : decode cX10_nextTuple 7 = .ok (.iaload, 1) := by decide +kernel
theorem dX10_nextTuple_8 : decode cX10_nextTuple 8 = .ok (.iconst 1, 1) := by decide +kernel
theorem dX10_nextTuple_9 : decode cX10_nextTuple 9 = .ok (.isub, 1) := by decide +kernel
theorem dX10_nextTuple_10 : decode cX10_nextTuple 10 = .ok (.invokevirtual 259, 3) := by decide +kernel
theorem dX10_nextTuple_13 : decode cX10_nextTuple 13 = .ok (.ireturn, 1) := by decide +kernel
theorem dX10_keepTuple_0 : decode cX10_keepTuple 0 = .ok (.iconst 0, 1) := by decide +kernel
theorem dX10_keepTuple_1 : decode cX10_keepTuple 1 = .ok (.istore_n 2, 1) := by decide +kernel
theorem dX10_keepTuple_2 : decode cX10_keepTuple 2 = .ok (.iload_n 2, 1) := by decide +kernel
theorem dX10_keepTuple_3 : decode cX10_keepTuple 3 = .ok (.iconst 2, 1) := by decide +kernel
theorem dX10_keepTuple_4 : decode cX10_keepTuple 4 = .ok (.if_icmp .ge 64, 3) := by decide +kernel
theorem dX10_keepTuple_7 : decode cX10_keepTuple 7 = .ok (.aload_n 0, 1) := by decide +kernel
theorem dX10_keepTuple_8 : decode cX10_keepTuple 8 = .ok (.getfield 103, 3) := by decide +kernel
theorem dX10_keepTuple_11 : decode cX10_keepTuple 11 = .ok (.iload_n 2, 1) := by decide +kernel
theorem dX10_keepTuple_12 : decode cX10_keepTuple 12 = .ok (.iload_n 2, 1) := by decide +kernel
theorem dX10_keepTuple_13 : decode cX10_keepTuple 13 = .ok (.aload_n 0, 1) := by decide +kernel
theorem dX10_keepTuple_14 : decode cX10_keepTuple 14 = .ok (.getfield 29, 3) := by decide +kernel
theorem dX10_keepTuple_17 : decode cX10_keepTuple 17 = .ok (.iload_n 1, 1) := by decide +kernel
theorem dX10_keepTuple_18 : decode cX10_keepTuple 18 = .ok (.iaload, 1) := by decide +kernel
theorem dX10_keepTuple_19 : decode cX10_keepTuple 19 = .ok (.if_icmp .ge 13, 3) := by decide +kernel
theorem dX10_keepTuple_22 : decode cX10_keepTuple 22 = .ok (.aload_n 0, 1) := by decide +kernel
theorem dX10_keepTuple_23 : decode cX10_keepTuple 23 = .ok (.getfield 82, 3) := by decide +kernel
theorem dX10_keepTuple_26 : decode cX10_keepTuple 26 = .ok (.iload_n 2, 1) := by decide +kernel
theorem dX10_keepTuple_27 : decode cX10_keepTuple 27 = .ok (.iaload, 1) := by decide +kernel
theorem dX10_keepTuple_28 : decode cX10_keepTuple 28 = .ok (.i2l, 1) := by decide +kernel
theorem dX10_keepTuple_29 : decode cX10_keepTuple 29 = .ok (.goto 4, 3) := by decide +kernel
theorem dX10_keepTuple_32 : decode cX10_keepTuple 32 = .ok (.lconst 0, 1) := by decide +kernel
theorem dX10_keepTuple_33 : decode cX10_keepTuple 33 = .ok (.lastore, 1) := by decide +kernel
theorem dX10_keepTuple_34 : decode cX10_keepTuple 34 = .ok (.aload_n 0, 1) := by decide +kernel
theorem dX10_keepTuple_35 : decode cX10_keepTuple 35 = .ok (.getfield 103, 3) := by decide +kernel
theorem dX10_keepTuple_38 : decode cX10_keepTuple 38 = .ok (.iconst 2, 1) := by decide +kernel
theorem dX10_keepTuple_39 : decode cX10_keepTuple 39 = .ok (.iload_n 2, 1) := by decide +kernel
theorem dX10_keepTuple_40 : decode cX10_keepTuple 40 = .ok (.iadd, 1) := by decide +kernel
theorem dX10_keepTuple_41 : decode cX10_keepTuple 41 = .ok (.iload_n 2, 1) := by decide +kernel
theorem dX10_keepTuple_42 : decode cX10_keepTuple 42 = .ok (.aload_n 0, 1) := by decide +kernel
theorem dX10_keepTuple_43 : decode cX10_keepTuple 43 = .ok (.getfield 29, 3) := by decide +kernel
theorem dX10_keepTuple_46 : decode cX10_keepTuple 46 = .ok (.iload_n 1, 1) := by decide +kernel
theorem dX10_keepTuple_47 : decode cX10_keepTuple 47 = .ok (.iaload, 1) := by decide +kernel
theorem dX10_keepTuple_48 : decode cX10_keepTuple 48 = .ok (.if_icmp .ge 12, 3) := by decide +kernel
theorem dX10_keepTuple_51 : decode cX10_keepTuple 51 = .ok (.aload_n 0, 1) := by decide +kernel
theorem dX10_keepTuple_52 : decode cX10_keepTuple 52 = .ok (.getfield 85, 3) := by decide +kernel
theorem dX10_keepTuple_55 : decode cX10_keepTuple 55 = .ok (.iload_n 2, 1) := by decide +kernel
theorem dX10_keepTuple_56 : decode cX10_keepTuple 56 = .ok (.laload, 1) := by decide +kernel
theorem dX10_keepTuple_57 : decode cX10_keepTuple 57 = .ok (.goto 4, 3) := by decide +kernel
theorem dX10_keepTuple_60 : decode cX10_keepTuple 60 = .ok (.lconst 0, 1) := by decide +kernel
theorem dX10_keepTuple_61 : decode cX10_keepTuple 61 = .ok (.lastore, 1) := by decide +kernel
theorem dX10_keepTuple_62 : decode cX10_keepTuple 62 = .ok (.iinc 2 1, 3) := by decide +kernel
theorem dX10_keepTuple_65 : decode cX10_keepTuple 65 = .ok (.goto (-63), 3) := by decide +kernel
theorem dX10_keepTuple_68 : decode cX10_keepTuple 68 = .ok (.return_, 1) := by decide +kernel
theorem dX10_findHole_0 : decode cX10_findHole 0 = .ok (.aload_n 0, 1) := by decide +kernel
theorem dX10_findHole_1 : decode cX10_findHole 1 = .ok (.iload_n 1, 1) := by decide +kernel
theorem dX10_findHole_2 : decode cX10_findHole 2 = .ok (.invokevirtual 262, 3) := by decide +kernel
theorem dX10_findHole_5 : decode cX10_findHole 5 = .ok (.istore_n 2, 1) := by decide +kernel
theorem dX10_findHole_6 : decode cX10_findHole 6 = .ok (.iload_n 2, 1) := by decide +kernel
theorem dX10_findHole_7 : decode cX10_findHole 7 = .ok (.ifCond .eq 21, 3) := by decide +kernel
theorem dX10_findHole_10 : decode cX10_findHole 10 = .ok (.aload_n 0, 1) := by decide +kernel
theorem dX10_findHole_11 : decode cX10_findHole 11 = .ok (.iload_n 1, 1) := by decide +kernel
theorem dX10_findHole_12 : decode cX10_findHole 12 = .ok (.iconst (-1), 1) := by decide +kernel
theorem dX10_findHole_13 : decode cX10_findHole 13 = .ok (.invokevirtual 206, 3) := by decide +kernel
theorem dX10_findHole_16 : decode cX10_findHole 16 = .ok (.ifCond .lt 12, 3) := by decide +kernel
theorem dX10_findHole_19 : decode cX10_findHole 19 = .ok (.aload_n 0, 1) := by decide +kernel
theorem dX10_findHole_20 : decode cX10_findHole 20 = .ok (.iload_n 1, 1) := by decide +kernel
theorem dX10_findHole_21 : decode cX10_findHole 21 = .ok (.invokevirtual 265, 3) := by decide +kernel
theorem dX10_findHole_24 : decode cX10_findHole 24 = .ok (.istore_n 2, 1) := by decide +kernel
theorem dX10_findHole_25 : decode cX10_findHole 25 = .ok (.goto (-19), 3) := by decide +kernel
theorem dX10_findHole_28 : decode cX10_findHole 28 = .ok (.aload_n 0, 1) := by decide +kernel
theorem dX10_findHole_29 : decode cX10_findHole 29 = .ok (.iload_n 1, 1) := by decide +kernel
theorem dX10_findHole_30 : decode cX10_findHole 30 = .ok (.invokevirtual 268, 3) := by decide +kernel
theorem dX10_findHole_33 : decode cX10_findHole 33 = .ok (.iload_n 2, 1) := by decide +kernel
theorem dX10_findHole_34 : decode cX10_findHole 34 = .ok (.ireturn, 1) := by decide +kernel
theorem dX10_covered_0 : decode cX10_covered 0 = .ok (.aload_n 0, 1) := by decide +kernel
theorem dX10_covered_1 : decode cX10_covered 1 = .ok (.iload_n 1, 1) := by decide +kernel
theorem dX10_covered_2 : decode cX10_covered 2 = .ok (.invokevirtual 134, 3) := by decide +kernel
theorem dX10_covered_5 : decode cX10_covered 5 = .ok (.ifCond .ne 6, 3) := by decide +kernel
theorem dX10_covered_8 : decode cX10_covered 8 = .ok (.bipush (-2), 2) := by decide +kernel
theorem dX10_covered_10 : decode cX10_covered 10 = .ok (.ireturn, 1) := by decide +kernel
theorem dX10_covered_11 : decode cX10_covered 11 = .ok (.aload_n 0, 1) := by decide +kernel
theorem dX10_covered_12 : decode cX10_covered 12 = .ok (.iload_n 1, 1) := by decide +kernel
theorem dX10_covered_13 : decode cX10_covered 13 = .ok (.invokevirtual 271, 3) := by decide +kernel
theorem dX10_covered_16 : decode cX10_covered 16 = .ok (.ifCond .eq 7, 3) := by decide +kernel
theorem dX10_covered_19 : decode cX10_covered 19 = .ok (.iconst 0, 1) := by decide +kernel
theorem dX10_covered_20 : decode cX10_covered 20 = .ok (.goto 4, 3) := by decide +kernel
theorem dX10_covered_23 : decode cX10_covered 23 = .ok (.iconst 1, 1) := by decide +kernel
theorem dX10_covered_24 : decode cX10_covered 24 = .ok (.ireturn, 1) := by decide +kernel
theorem dX10_hole_0 : decode cX10_hole 0 = .ok (.aload_n 0, 1) := by decide +kernel
theorem dX10_hole_1 : decode cX10_hole 1 = .ok (.iload_n 1, 1) := by decide +kernel
theorem dX10_hole_2 : decode cX10_hole 2 = .ok (.invokevirtual 134, 3) := by decide +kernel
theorem dX10_hole_5 : decode cX10_hole 5 = .ok (.ifCond .eq 29, 3) := by decide +kernel
theorem dX10_hole_8 : decode cX10_hole 8 = .ok (.iload_n 2, 1) := by decide +kernel
theorem dX10_hole_9 : decode cX10_hole 9 = .ok (.ifCond .lt 25, 3) := by decide +kernel
theorem dX10_hole_12 : decode cX10_hole 12 = .ok (.iload_n 2, 1) := by decide +kernel
theorem dX10_hole_13 : decode cX10_hole 13 = .ok (.iconst 4, 1) := by decide +kernel
theorem dX10_hole_14 : decode cX10_hole 14 = .ok (.if_icmp .ge 20, 3) := by decide +kernel
theorem dX10_hole_17 : decode cX10_hole 17 = .ok (.aload_n 0, 1) := by decide +kernel
theorem dX10_hole_18 : decode cX10_hole 18 = .ok (.iload_n 1, 1) := by decide +kernel
theorem dX10_hole_19 : decode cX10_hole 19 = .ok (.invokevirtual 271, 3) := by decide +kernel
theorem dX10_hole_22 : decode cX10_hole 22 = .ok (.ifCond .eq 12, 3) := by decide +kernel
theorem dX10_hole_25 : decode cX10_hole 25 = .ok (.aload_n 0, 1) := by decide +kernel
theorem dX10_hole_26 : decode cX10_hole 26 = .ok (.getfield 103, 3) := by decide +kernel
theorem dX10_hole_29 : decode cX10_hole 29 = .ok (.iload_n 2, 1) := by decide +kernel
theorem dX10_hole_30 : decode cX10_hole 30 = .ok (.laload, 1) := by decide +kernel
theorem dX10_hole_31 : decode cX10_hole 31 = .ok (.goto 6, 3) := by decide +kernel
theorem dX10_hole_34 : decode cX10_hole 34 = .ok (.ldc2_w 274, 3) := by decide +kernel
theorem dX10_hole_37 : decode cX10_hole 37 = .ok (.lreturn, 1) := by decide +kernel
theorem dX10_areInDoubt_0 : decode cX10_areInDoubt 0 = .ok (.aload_n 0, 1) := by decide +kernel
theorem dX10_areInDoubt_1 : decode cX10_areInDoubt 1 = .ok (.iload_n 2, 1) := by decide +kernel
theorem dX10_areInDoubt_2 : decode cX10_areInDoubt 2 = .ok (.invokevirtual 168, 3) := by decide +kernel
theorem dX10_areInDoubt_5 : decode cX10_areInDoubt 5 = .ok (.ifCond .eq 11, 3) := by decide +kernel
theorem dX10_areInDoubt_8 : decode cX10_areInDoubt 8 = .ok (.aload_n 0, 1) := by decide +kernel
theorem dX10_areInDoubt_9 : decode cX10_areInDoubt 9 = .ok (.iload_n 3, 1) := by decide +kernel
theorem dX10_areInDoubt_10 : decode cX10_areInDoubt 10 = .ok (.invokevirtual 168, 3) := by decide +kernel
theorem dX10_areInDoubt_13 : decode cX10_areInDoubt 13 = .ok (.ifCond .ne 5, 3) := by decide +kernel
theorem dX10_areInDoubt_16 : decode cX10_areInDoubt 16 = .ok (.iconst 0, 1) := by decide +kernel
theorem dX10_areInDoubt_17 : decode cX10_areInDoubt 17 = .ok (.ireturn, 1) := by decide +kernel
theorem dX10_areInDoubt_18 : decode cX10_areInDoubt 18 = .ok (.iconst 1, 1) := by decide +kernel
theorem dX10_areInDoubt_19 : decode cX10_areInDoubt 19 = .ok (.istore 4, 2) := by decide +kernel
theorem dX10_areInDoubt_21 : decode cX10_areInDoubt 21 = .ok (.iconst 0, 1) := by decide +kernel
theorem dX10_areInDoubt_22 : decode cX10_areInDoubt 22 = .ok (.istore 5, 2) := by decide +kernel
theorem dX10_areInDoubt_24 : decode cX10_areInDoubt 24 = .ok (.iload 5, 2) := by decide +kernel
theorem dX10_areInDoubt_26 : decode cX10_areInDoubt 26 = .ok (.aload_n 0, 1) := by decide +kernel
theorem dX10_areInDoubt_27 : decode cX10_areInDoubt 27 = .ok (.getfield 131, 3) := by decide +kernel
theorem dX10_areInDoubt_30 : decode cX10_areInDoubt 30 = .ok (.if_icmp .ge 52, 3) := by decide +kernel
theorem dX10_areInDoubt_33 : decode cX10_areInDoubt 33 = .ok (.iload 4, 2) := by decide +kernel
theorem dX10_areInDoubt_35 : decode cX10_areInDoubt 35 = .ok (.ifCond .eq 38, 3) := by decide +kernel
theorem dX10_areInDoubt_38 : decode cX10_areInDoubt 38 = .ok (.aload_n 0, 1) := by decide +kernel
theorem dX10_areInDoubt_39 : decode cX10_areInDoubt 39 = .ok (.iload 5, 2) := by decide +kernel
theorem dX10_areInDoubt_41 : decode cX10_areInDoubt 41 = .ok (.iload_n 1, 1) := by decide +kernel
theorem dX10_areInDoubt_42 : decode cX10_areInDoubt 42 = .ok (.iconst (-1), 1) := by decide +kernel
theorem dX10_areInDoubt_43 : decode cX10_areInDoubt 43 = .ok (.invokevirtual 171, 3) := by decide +kernel
theorem dX10_areInDoubt_46 : decode cX10_areInDoubt 46 = .ok (.ifCond .eq 23, 3) := by decide +kernel
theorem dX10_areInDoubt_49 : decode cX10_areInDoubt 49 = .ok (.aload_n 0, 1) := by decide +kernel
theorem dX10_areInDoubt_50 : decode cX10_areInDoubt 50 = .ok (.iload 5, 2) := by decide +kernel
theorem dX10_areInDoubt_52 : decode cX10_areInDoubt 52 = .ok (.iload_n 2, 1) := by decide +kernel
theorem dX10_areInDoubt_53 : decode cX10_areInDoubt 53 = .ok (.invokevirtual 159, 3) := by decide +kernel
theorem dX10_areInDoubt_56 : decode cX10_areInDoubt 56 = .ok (.ifCond .eq 13, 3) := by decide +kernel
theorem dX10_areInDoubt_59 : decode cX10_areInDoubt 59 = .ok (.aload_n 0, 1) := by decide +kernel
theorem dX10_areInDoubt_60 : decode cX10_areInDoubt 60 = .ok (.iload 5, 2) := by decide +kernel
theorem dX10_areInDoubt_62 : decode cX10_areInDoubt 62 = .ok (.iload_n 3, 1) := by decide +kernel
theorem dX10_areInDoubt_63 : decode cX10_areInDoubt 63 = .ok (.invokevirtual 159, 3) := by decide +kernel
theorem dX10_areInDoubt_66 : decode cX10_areInDoubt 66 = .ok (.ifCond .ne 7, 3) := by decide +kernel
theorem dX10_areInDoubt_69 : decode cX10_areInDoubt 69 = .ok (.iconst 1, 1) := by decide +kernel
theorem dX10_areInDoubt_70 : decode cX10_areInDoubt 70 = .ok (.goto 4, 3) := by decide +kernel
theorem dX10_areInDoubt_73 : decode cX10_areInDoubt 73 = .ok (.iconst 0, 1) := by decide +kernel
theorem dX10_areInDoubt_74 : decode cX10_areInDoubt 74 = .ok (.istore 4, 2) := by decide +kernel
theorem dX10_areInDoubt_76 : decode cX10_areInDoubt 76 = .ok (.iinc 5 1, 3) := by decide +kernel
theorem dX10_areInDoubt_79 : decode cX10_areInDoubt 79 = .ok (.goto (-55), 3) := by decide +kernel
theorem dX10_areInDoubt_82 : decode cX10_areInDoubt 82 = .ok (.iload 4, 2) := by decide +kernel
theorem dX10_areInDoubt_84 : decode cX10_areInDoubt 84 = .ok (.ireturn, 1) := by decide +kernel
theorem dX10_findDoubt_0 : decode cX10_findDoubt 0 = .ok (.aload_n 0, 1) := by decide +kernel
theorem dX10_findDoubt_1 : decode cX10_findDoubt 1 = .ok (.iload_n 2, 1) := by decide +kernel
theorem dX10_findDoubt_2 : decode cX10_findDoubt 2 = .ok (.iload_n 3, 1) := by decide +kernel
theorem dX10_findDoubt_3 : decode cX10_findDoubt 3 = .ok (.invokevirtual 159, 3) := by decide +kernel
theorem dX10_findDoubt_6 : decode cX10_findDoubt 6 = .ok (.ifCond .ne 12, 3) := by decide +kernel
theorem dX10_findDoubt_9 : decode cX10_findDoubt 9 = .ok (.aload_n 0, 1) := by decide +kernel
theorem dX10_findDoubt_10 : decode cX10_findDoubt 10 = .ok (.iload_n 3, 1) := by decide +kernel
theorem dX10_findDoubt_11 : decode cX10_findDoubt 11 = .ok (.iload_n 2, 1) := by decide +kernel
theorem dX10_findDoubt_12 : decode cX10_findDoubt 12 = .ok (.invokevirtual 159, 3) := by decide +kernel
theorem dX10_findDoubt_15 : decode cX10_findDoubt 15 = .ok (.ifCond .eq 5, 3) := by decide +kernel
theorem dX10_findDoubt_18 : decode cX10_findDoubt 18 = .ok (.iconst 0, 1) := by decide +kernel
theorem dX10_findDoubt_19 : decode cX10_findDoubt 19 = .ok (.ireturn, 1) := by decide +kernel
theorem dX10_findDoubt_20 : decode cX10_findDoubt 20 = .ok (.aload_n 0, 1) := by decide +kernel
theorem dX10_findDoubt_21 : decode cX10_findDoubt 21 = .ok (.iload_n 1, 1) := by decide +kernel
theorem dX10_findDoubt_22 : decode cX10_findDoubt 22 = .ok (.invokevirtual 262, 3) := by decide +kernel
theorem dX10_findDoubt_25 : decode cX10_findDoubt 25 = .ok (.istore 4, 2) := by decide +kernel
theorem dX10_findDoubt_27 : decode cX10_findDoubt 27 = .ok (.iconst 0, 1) := by decide +kernel
theorem dX10_findDoubt_28 : decode cX10_findDoubt 28 = .ok (.istore 5, 2) := by decide +kernel
theorem dX10_findDoubt_30 : decode cX10_findDoubt 30 = .ok (.iload 4, 2) := by decide +kernel
theorem dX10_findDoubt_32 : decode cX10_findDoubt 32 = .ok (.ifCond .eq 84, 3) := by decide +kernel
theorem dX10_findDoubt_35 : decode cX10_findDoubt 35 = .ok (.iload 5, 2) := by decide +kernel
theorem dX10_findDoubt_37 : decode cX10_findDoubt 37 = .ok (.ifCond .ne 79, 3) := by decide +kernel
theorem dX10_findDoubt_40 : decode cX10_findDoubt 40 = .ok (.aload_n 0, 1) := by decide +kernel
theorem dX10_findDoubt_41 : decode cX10_findDoubt 41 = .ok (.iload_n 2, 1) := by decide +kernel
theorem dX10_findDoubt_42 : decode cX10_findDoubt 42 = .ok (.iconst 0, 1) := by decide +kernel
theorem dX10_findDoubt_43 : decode cX10_findDoubt 43 = .ok (.invokevirtual 165, 3) := by decide +kernel
theorem dX10_findDoubt_46 : decode cX10_findDoubt 46 = .ok (.ifCond .eq 16, 3) := by decide +kernel
theorem dX10_findDoubt_49 : decode cX10_findDoubt 49 = .ok (.aload_n 0, 1) := by decide +kernel
theorem dX10_findDoubt_50 : decode cX10_findDoubt 50 = .ok (.iload_n 3, 1) := by decide +kernel
theorem dX10_findDoubt_51 : decode cX10_findDoubt 51 = .ok (.iconst 0, 1) := by decide +kernel
theorem dX10_findDoubt_52 : decode cX10_findDoubt 52 = .ok (.invokevirtual 165, 3) := by decide +kernel
theorem dX10_findDoubt_55 : decode cX10_findDoubt 55 = .ok (.ifCond .eq 7, 3) := by decide +kernel
theorem dX10_findDoubt_58 : decode cX10_findDoubt 58 = .ok (.iconst 1, 1) := by decide +kernel
theorem dX10_findDoubt_59 : decode cX10_findDoubt 59 = .ok (.goto 4, 3) := by decide +kernel
theorem dX10_findDoubt_62 : decode cX10_findDoubt 62 = .ok (.iconst 0, 1) := by decide +kernel
theorem dX10_findDoubt_63 : decode cX10_findDoubt 63 = .ok (.istore 6, 2) := by decide +kernel
theorem dX10_findDoubt_65 : decode cX10_findDoubt 65 = .ok (.iload 6, 2) := by decide +kernel
theorem dX10_findDoubt_67 : decode cX10_findDoubt 67 = .ok (.ifCond .eq 17, 3) := by decide +kernel
theorem dX10_findDoubt_70 : decode cX10_findDoubt 70 = .ok (.aload_n 0, 1) := by decide +kernel
theorem dX10_findDoubt_71 : decode cX10_findDoubt 71 = .ok (.iload_n 1, 1) := by decide +kernel
theorem dX10_findDoubt_72 : decode cX10_findDoubt 72 = .ok (.iload_n 2, 1) := by decide +kernel
theorem dX10_findDoubt_73 : decode cX10_findDoubt 73 = .ok (.iload_n 3, 1) := by decide +kernel
theorem dX10_findDoubt_74 : decode cX10_findDoubt 74 = .ok (.invokevirtual 276, 3) := by decide +kernel
theorem dX10_findDoubt_77 : decode cX10_findDoubt 77 = .ok (.ifCond .eq 7, 3) := by decide +kernel
theorem dX10_findDoubt_80 : decode cX10_findDoubt 80 = .ok (.iconst 1, 1) := by decide +kernel
theorem dX10_findDoubt_81 : decode cX10_findDoubt 81 = .ok (.goto 4, 3) := by decide +kernel
theorem dX10_findDoubt_84 : decode cX10_findDoubt 84 = .ok (.iconst 0, 1) := by decide +kernel
theorem dX10_findDoubt_85 : decode cX10_findDoubt 85 = .ok (.istore 5, 2) := by decide +kernel
theorem dX10_findDoubt_87 : decode cX10_findDoubt 87 = .ok (.iload 5, 2) := by decide +kernel
theorem dX10_findDoubt_89 : decode cX10_findDoubt 89 = .ok (.ifCond .ne 24, 3) := by decide +kernel
theorem dX10_findDoubt_92 : decode cX10_findDoubt 92 = .ok (.iload 6, 2) := by decide +kernel
theorem dX10_findDoubt_94 : decode cX10_findDoubt 94 = .ok (.ifCond .eq 11, 3) := by decide +kernel
theorem dX10_findDoubt_97 : decode cX10_findDoubt 97 = .ok (.aload_n 0, 1) := by decide +kernel
theorem dX10_findDoubt_98 : decode cX10_findDoubt 98 = .ok (.iload_n 1, 1) := by decide +kernel
theorem dX10_findDoubt_99 : decode cX10_findDoubt 99 = .ok (.invokevirtual 265, 3) := by decide +kernel
theorem dX10_findDoubt_102 : decode cX10_findDoubt 102 = .ok (.goto 9, 3) := by decide +kernel
theorem dX10_findDoubt_105 : decode cX10_findDoubt 105 = .ok (.aload_n 0, 1) := by decide +kernel
theorem dX10_findDoubt_106 : decode cX10_findDoubt 106 = .ok (.iload_n 1, 1) := by decide +kernel
theorem dX10_findDoubt_107 : decode cX10_findDoubt 107 = .ok (.iconst 0, 1) := by decide +kernel
theorem dX10_findDoubt_108 : decode cX10_findDoubt 108 = .ok (.invokevirtual 259, 3) := by decide +kernel
theorem dX10_findDoubt_111 : decode cX10_findDoubt 111 = .ok (.istore 4, 2) := by decide +kernel
theorem dX10_findDoubt_113 : decode cX10_findDoubt 113 = .ok (.goto (-83), 3) := by decide +kernel
theorem dX10_findDoubt_116 : decode cX10_findDoubt 116 = .ok (.aload_n 0, 1) := by decide +kernel
theorem dX10_findDoubt_117 : decode cX10_findDoubt 117 = .ok (.iload_n 1, 1) := by decide +kernel
theorem dX10_findDoubt_118 : decode cX10_findDoubt 118 = .ok (.invokevirtual 268, 3) := by decide +kernel
theorem dX10_findDoubt_121 : decode cX10_findDoubt 121 = .ok (.iload 4, 2) := by decide +kernel
theorem dX10_findDoubt_123 : decode cX10_findDoubt 123 = .ok (.ireturn, 1) := by decide +kernel
theorem dX10_doubt_0 : decode cX10_doubt 0 = .ok (.aload_n 0, 1) := by decide +kernel
theorem dX10_doubt_1 : decode cX10_doubt 1 = .ok (.iload_n 1, 1) := by decide +kernel
theorem dX10_doubt_2 : decode cX10_doubt 2 = .ok (.invokevirtual 134, 3) := by decide +kernel
theorem dX10_doubt_5 : decode cX10_doubt 5 = .ok (.ifCond .eq 16, 3) := by decide +kernel
theorem dX10_doubt_8 : decode cX10_doubt 8 = .ok (.iload_n 2, 1) := by decide +kernel
theorem dX10_doubt_9 : decode cX10_doubt 9 = .ok (.ifCond .lt 12, 3) := by decide +kernel
theorem dX10_doubt_12 : decode cX10_doubt 12 = .ok (.iload_n 3, 1) := by decide +kernel
theorem dX10_doubt_13 : decode cX10_doubt 13 = .ok (.ifCond .lt 8, 3) := by decide +kernel
theorem dX10_doubt_16 : decode cX10_doubt 16 = .ok (.iload_n 3, 1) := by decide +kernel
theorem dX10_doubt_17 : decode cX10_doubt 17 = .ok (.iconst 5, 1) := by decide +kernel
theorem dX10_doubt_18 : decode cX10_doubt 18 = .ok (.if_icmp .le 7, 3) := by decide +kernel
theorem dX10_doubt_21 : decode cX10_doubt 21 = .ok (.ldc2_w 274, 3) := by decide +kernel
theorem dX10_doubt_24 : decode cX10_doubt 24 = .ok (.lreturn, 1) := by decide +kernel
theorem dX10_doubt_25 : decode cX10_doubt 25 = .ok (.iconst 0, 1) := by decide +kernel
theorem dX10_doubt_26 : decode cX10_doubt 26 = .ok (.istore 4, 2) := by decide +kernel
theorem dX10_doubt_28 : decode cX10_doubt 28 = .ok (.iconst 0, 1) := by decide +kernel
theorem dX10_doubt_29 : decode cX10_doubt 29 = .ok (.istore 5, 2) := by decide +kernel
theorem dX10_doubt_31 : decode cX10_doubt 31 = .ok (.iload 5, 2) := by decide +kernel
theorem dX10_doubt_33 : decode cX10_doubt 33 = .ok (.aload_n 0, 1) := by decide +kernel
theorem dX10_doubt_34 : decode cX10_doubt 34 = .ok (.getfield 131, 3) := by decide +kernel
theorem dX10_doubt_37 : decode cX10_doubt 37 = .ok (.if_icmp .ge 133, 3) := by decide +kernel
theorem dX10_doubt_40 : decode cX10_doubt 40 = .ok (.iload 5, 2) := by decide +kernel
theorem dX10_doubt_42 : decode cX10_doubt 42 = .ok (.iconst 1, 1) := by decide +kernel
theorem dX10_doubt_43 : decode cX10_doubt 43 = .ok (.iadd, 1) := by decide +kernel
theorem dX10_doubt_44 : decode cX10_doubt 44 = .ok (.istore 6, 2) := by decide +kernel
theorem dX10_doubt_46 : decode cX10_doubt 46 = .ok (.iload 6, 2) := by decide +kernel
theorem dX10_doubt_48 : decode cX10_doubt 48 = .ok (.aload_n 0, 1) := by decide +kernel
theorem dX10_doubt_49 : decode cX10_doubt 49 = .ok (.getfield 131, 3) := by decide +kernel
theorem dX10_doubt_52 : decode cX10_doubt 52 = .ok (.if_icmp .ge 112, 3) := by decide +kernel
theorem dX10_doubt_55 : decode cX10_doubt 55 = .ok (.aload_n 0, 1) := by decide +kernel
theorem dX10_doubt_56 : decode cX10_doubt 56 = .ok (.iload 5, 2) := by decide +kernel
theorem dX10_doubt_58 : decode cX10_doubt 58 = .ok (.iload_n 1, 1) := by decide +kernel
theorem dX10_doubt_59 : decode cX10_doubt 59 = .ok (.invokevirtual 145, 3) := by decide +kernel
theorem dX10_doubt_62 : decode cX10_doubt 62 = .ok (.ifCond .eq 37, 3) := by decide +kernel
theorem dX10_doubt_65 : decode cX10_doubt 65 = .ok (.aload_n 0, 1) := by decide +kernel
theorem dX10_doubt_66 : decode cX10_doubt 66 = .ok (.iload 6, 2) := by decide +kernel
theorem dX10_doubt_68 : decode cX10_doubt 68 = .ok (.iload_n 1, 1) := by decide +kernel
theorem dX10_doubt_69 : decode cX10_doubt 69 = .ok (.invokevirtual 145, 3) := by decide +kernel
theorem dX10_doubt_72 : decode cX10_doubt 72 = .ok (.ifCond .eq 27, 3) := by decide +kernel
theorem dX10_doubt_75 : decode cX10_doubt 75 = .ok (.aload_n 0, 1) := by decide +kernel
theorem dX10_doubt_76 : decode cX10_doubt 76 = .ok (.getfield 54, 3) := by decide +kernel
theorem dX10_doubt_79 : decode cX10_doubt 79 = .ok (.iload 5, 2) := by decide +kernel
theorem dX10_doubt_81 : decode cX10_doubt 81 = .ok (.baload, 1) := by decide +kernel
theorem dX10_doubt_82 : decode cX10_doubt 82 = .ok (.ifCond .ne 17, 3) := by decide +kernel
theorem dX10_doubt_85 : decode cX10_doubt 85 = .ok (.aload_n 0, 1) := by decide +kernel
theorem dX10_doubt_86 : decode cX10_doubt 86 = .ok (.getfield 54, 3) := by decide +kernel
theorem dX10_doubt_89 : decode cX10_doubt 89 = .ok (.iload 6, 2) := by decide +kernel
theorem dX10_doubt_91 : decode cX10_doubt 91 = .ok (.baload, 1) := by decide +kernel
theorem dX10_doubt_92 : decode cX10_doubt 92 = .ok (.ifCond .ne 7, 3) := by decide +kernel
theorem dX10_doubt_95 : decode cX10_doubt 95 = .ok (.iconst 1, 1) := by decide +kernel
theorem dX10_doubt_96 : decode cX10_doubt 96 = .ok (.goto 4, 3) := by decide +kernel
theorem dX10_doubt_99 : decode cX10_doubt 99 = .ok (.iconst 0, 1) := by decide +kernel
theorem dX10_doubt_100 : decode cX10_doubt 100 = .ok (.istore 7, 2) := by decide +kernel
theorem dX10_doubt_102 : decode cX10_doubt 102 = .ok (.iload 7, 2) := by decide +kernel
theorem dX10_doubt_104 : decode cX10_doubt 104 = .ok (.ifCond .eq 54, 3) := by decide +kernel
theorem dX10_doubt_107 : decode cX10_doubt 107 = .ok (.aload_n 0, 1) := by decide +kernel
theorem dX10_doubt_108 : decode cX10_doubt 108 = .ok (.iload_n 1, 1) := by decide +kernel
theorem dX10_doubt_109 : decode cX10_doubt 109 = .ok (.iload 5, 2) := by decide +kernel
theorem dX10_doubt_111 : decode cX10_doubt 111 = .ok (.iload 6, 2) := by decide +kernel
theorem dX10_doubt_113 : decode cX10_doubt 113 = .ok (.invokevirtual 279, 3) := by decide +kernel
theorem dX10_doubt_116 : decode cX10_doubt 116 = .ok (.ifCond .eq 42, 3) := by decide +kernel
theorem dX10_doubt_119 : decode cX10_doubt 119 = .ok (.iload 4, 2) := by decide +kernel
theorem dX10_doubt_121 : decode cX10_doubt 121 = .ok (.iload_n 2, 1) := by decide +kernel
theorem dX10_doubt_122 : decode cX10_doubt 122 = .ok (.if_icmp .ne 33, 3) := by decide +kernel
theorem dX10_doubt_125 : decode cX10_doubt 125 = .ok (.iload_n 3, 1) := by decide +kernel
theorem dX10_doubt_126 : decode cX10_doubt 126 = .ok (.ifCond .ne 9, 3) := by decide +kernel
theorem dX10_doubt_129 : decode cX10_doubt 129 = .ok (.iload 5, 2) := by decide +kernel
theorem dX10_doubt_131 : decode cX10_doubt 131 = .ok (.i2l, 1) := by decide +kernel
theorem dX10_doubt_132 : decode cX10_doubt 132 = .ok (.goto 22, 3) := by decide +kernel
theorem dX10_doubt_135 : decode cX10_doubt 135 = .ok (.iload_n 3, 1) := by decide +kernel
theorem dX10_doubt_136 : decode cX10_doubt 136 = .ok (.iconst 1, 1) := by decide +kernel
theorem dX10_doubt_137 : decode cX10_doubt 137 = .ok (.if_icmp .ne 9, 3) := by decide +kernel
theorem dX10_doubt_140 : decode cX10_doubt 140 = .ok (.iload 6, 2) := by decide +kernel
theorem dX10_doubt_142 : decode cX10_doubt 142 = .ok (.i2l, 1) := by decide +kernel
theorem dX10_doubt_143 : decode cX10_doubt 143 = .ok (.goto 11, 3) := by decide +kernel
theorem dX10_doubt_146 : decode cX10_doubt 146 = .ok (.aload_n 0, 1) := by decide +kernel
theorem dX10_doubt_147 : decode cX10_doubt 147 = .ok (.getfield 103, 3) := by decide +kernel
theorem dX10_doubt_150 : decode cX10_doubt 150 = .ok (.iload_n 3, 1) := by decide +kernel
theorem dX10_doubt_151 : decode cX10_doubt 151 = .ok (.iconst 2, 1) := by decide +kernel
theorem dX10_doubt_152 : decode cX10_doubt 152 = .ok (.isub, 1) := by decide +kernel
theorem dX10_doubt_153 : decode cX10_doubt 153 = .ok (.laload, 1) := by decide +kernel
theorem dX10_doubt_154 : decode cX10_doubt 154 = .ok (.lreturn, 1) := by decide +kernel
theorem dX10_doubt_155 : decode cX10_doubt 155 = .ok (.iinc 4 1, 3) := by decide +kernel
theorem dX10_doubt_158 : decode cX10_doubt 158 = .ok (.iinc 6 1, 3) := by decide +kernel
theorem dX10_doubt_161 : decode cX10_doubt 161 = .ok (.goto (-115), 3) := by decide +kernel
theorem dX10_doubt_164 : decode cX10_doubt 164 = .ok (.iinc 5 1, 3) := by decide +kernel
theorem dX10_doubt_167 : decode cX10_doubt 167 = .ok (.goto (-136), 3) := by decide +kernel
theorem dX10_doubt_170 : decode cX10_doubt 170 = .ok (.ldc2_w 274, 3) := by decide +kernel
theorem dX10_doubt_173 : decode cX10_doubt 173 = .ok (.lreturn, 1) := by decide +kernel
theorem dJ9_floorMod_7cf53_0 : decode cJ9_floorMod_7cf53 0 = .ok (.iload_n 0, 1) := by decide +kernel
theorem dJ9_floorMod_7cf53_1 : decode cJ9_floorMod_7cf53 1 = .ok (.iload_n 1, 1) := by decide +kernel
theorem dJ9_floorMod_7cf53_2 : decode cJ9_floorMod_7cf53 2 = .ok (.irem, 1) := by decide +kernel
theorem dJ9_floorMod_7cf53_3 : decode cJ9_floorMod_7cf53 3 = .ok (.istore_n 2, 1) := by decide +kernel
theorem dJ9_floorMod_7cf53_4 : decode cJ9_floorMod_7cf53 4 = .ok (.iload_n 0, 1) := by decide +kernel
theorem dJ9_floorMod_7cf53_5 : decode cJ9_floorMod_7cf53 5 = .ok (.iload_n 1, 1) := by decide +kernel
theorem dJ9_floorMod_7cf53_6 : decode cJ9_floorMod_7cf53 6 = .ok (.ixor, 1) := by decide +kernel
theorem dJ9_floorMod_7cf53_7 : decode cJ9_floorMod_7cf53 7 = .ok (.ifCond .ge 11, 3) := by decide +kernel
theorem dJ9_floorMod_7cf53_10 : decode cJ9_floorMod_7cf53 10 = .ok (.iload_n 2, 1) := by decide +kernel
theorem dJ9_floorMod_7cf53_11 : decode cJ9_floorMod_7cf53 11 = .ok (.ifCond .eq 7, 3) := by decide +kernel
theorem dJ9_floorMod_7cf53_14 : decode cJ9_floorMod_7cf53 14 = .ok (.iload_n 2, 1) := by decide +kernel
theorem dJ9_floorMod_7cf53_15 : decode cJ9_floorMod_7cf53 15 = .ok (.iload_n 1, 1) := by decide +kernel
theorem dJ9_floorMod_7cf53_16 : decode cJ9_floorMod_7cf53 16 = .ok (.iadd, 1) := by decide +kernel
theorem dJ9_floorMod_7cf53_17 : decode cJ9_floorMod_7cf53 17 = .ok (.ireturn, 1) := by decide +kernel
theorem dJ9_floorMod_7cf53_18 : decode cJ9_floorMod_7cf53 18 = .ok (.iload_n 2, 1) := by decide +kernel
theorem dJ9_floorMod_7cf53_19 : decode cJ9_floorMod_7cf53 19 = .ok (.ireturn, 1) := by decide +kernel
theorem dJ9_min_f86c9_0 : decode cJ9_min_f86c9 0 = .ok (.lload_n 0, 1) := by decide +kernel
theorem dJ9_min_f86c9_1 : decode cJ9_min_f86c9 1 = .ok (.lload_n 2, 1) := by decide +kernel
theorem dJ9_min_f86c9_2 : decode cJ9_min_f86c9 2 = .ok (.lcmp, 1) := by decide +kernel
theorem dJ9_min_f86c9_3 : decode cJ9_min_f86c9 3 = .ok (.ifCond .gt 7, 3) := by decide +kernel
theorem dJ9_min_f86c9_6 : decode cJ9_min_f86c9 6 = .ok (.lload_n 0, 1) := by decide +kernel
theorem dJ9_min_f86c9_7 : decode cJ9_min_f86c9 7 = .ok (.goto 4, 3) := by decide +kernel
theorem dJ9_min_f86c9_10 : decode cJ9_min_f86c9 10 = .ok (.lload_n 2, 1) := by decide +kernel
theorem dJ9_min_f86c9_11 : decode cJ9_min_f86c9 11 = .ok (.lreturn, 1) := by decide +kernel
theorem dJ7_fill_53178_0 : decode cJ7_fill_53178 0 = .ok (.iconst 0, 1) := by decide +kernel
theorem dJ7_fill_53178_1 : decode cJ7_fill_53178 1 = .ok (.istore_n 2, 1) := by decide +kernel
theorem dJ7_fill_53178_2 : decode cJ7_fill_53178 2 = .ok (.aload_n 0, 1) := by decide +kernel
theorem dJ7_fill_53178_3 : decode cJ7_fill_53178 3 = .ok (.arraylength, 1) := by decide +kernel
theorem dJ7_fill_53178_4 : decode cJ7_fill_53178 4 = .ok (.istore_n 3, 1) := by decide +kernel
theorem dJ7_fill_53178_5 : decode cJ7_fill_53178 5 = .ok (.iload_n 2, 1) := by decide +kernel
theorem dJ7_fill_53178_6 : decode cJ7_fill_53178 6 = .ok (.iload_n 3, 1) := by decide +kernel
theorem dJ7_fill_53178_7 : decode cJ7_fill_53178 7 = .ok (.if_icmp .ge 13, 3) := by decide +kernel
theorem dJ7_fill_53178_10 : decode cJ7_fill_53178 10 = .ok (.aload_n 0, 1) := by decide +kernel
theorem dJ7_fill_53178_11 : decode cJ7_fill_53178 11 = .ok (.iload_n 2, 1) := by decide +kernel
theorem dJ7_fill_53178_12 : decode cJ7_fill_53178 12 = .ok (.iload_n 1, 1) := by decide +kernel
theorem dJ7_fill_53178_13 : decode cJ7_fill_53178 13 = .ok (.iastore, 1) := by decide +kernel
theorem dJ7_fill_53178_14 : decode cJ7_fill_53178 14 = .ok (.iinc 2 1, 3) := by decide +kernel
theorem dJ7_fill_53178_17 : decode cJ7_fill_53178 17 = .ok (.goto (-12), 3) := by decide +kernel
theorem dJ7_fill_53178_20 : decode cJ7_fill_53178 20 = .ok (.return_, 1) := by decide +kernel
end
section
/-! ===== the pool: a pure memory by kinds and numbers, and the machine's rows over it ===== -/
abbrev PS : Type := (Nat → Nat → Nat → Int32) × (Nat → Nat → Nat → Int64) × (Nat → Nat → Nat → Option Nat) × (Nat → Nat → Nat)
def gI (σ : PS) (k n : Nat) : Nat → Int32 := σ.1 k n
def gL (σ : PS) (k n : Nat) : Nat → Int64 := σ.2.1 k n
def gR (σ : PS) (k n : Nat) : Nat → Option Nat := σ.2.2.1 k n
def gN (σ : PS) (k n : Nat) : Nat := σ.2.2.2 k n
def sI (σ : PS) (k n i : Nat) (v : Int32) : PS := (fun a b => if a = k ∧ b = n then upd (σ.1 a b) i v else σ.1 a b, σ.2)
def sL (σ : PS) (k n i : Nat) (v : Int64) : PS := (σ.1, fun a b => if a = k ∧ b = n then vp_updL (σ.2.1 a b) i v else σ.2.1 a b, σ.2.2)
def sR (σ : PS) (k n i : Nat) (v : Option Nat) : PS := (σ.1, σ.2.1, fun a b => if a = k ∧ b = n then va_up (σ.2.2.1 a b) i v else σ.2.2.1 a b, σ.2.2.2)
theorem gI_sI_same {σ : PS} {k n i : Nat} {v : Int32} : gI (sI σ k n i v) k n = upd (gI σ k n) i v := by simp [gI, sI]
theorem gI_sI_ne {σ : PS} {k n i a b : Nat} {v : Int32} (h : ¬ (a = k ∧ b = n)) : gI (sI σ k n i v) a b = gI σ a b := by simp [gI, sI, h]
theorem gL_sL_same {σ : PS} {k n i : Nat} {v : Int64} : gL (sL σ k n i v) k n = vp_updL (gL σ k n) i v := by simp [gL, sL]
theorem gL_sL_ne {σ : PS} {k n i a b : Nat} {v : Int64} (h : ¬ (a = k ∧ b = n)) : gL (sL σ k n i v) a b = gL σ a b := by simp [gL, sL, h]
theorem gR_sR_same {σ : PS} {k n i : Nat} {v : Option Nat} : gR (sR σ k n i v) k n = va_up (gR σ k n) i v := by simp [gR, sR]
theorem gR_sR_ne {σ : PS} {k n i a b : Nat} {v : Option Nat} (h : ¬ (a = k ∧ b = n)) : gR (sR σ k n i v) a b = gR σ a b := by simp [gR, sR, h]
theorem gL_sI {σ : PS} {k n i : Nat} {v : Int32} : gL (sI σ k n i v) = gL σ := rfl
theorem gR_sI {σ : PS} {k n i : Nat} {v : Int32} : gR (sI σ k n i v) = gR σ := rfl
theorem gN_sI {σ : PS} {k n i : Nat} {v : Int32} : gN (sI σ k n i v) = gN σ := rfl
theorem gI_sL {σ : PS} {k n i : Nat} {v : Int64} : gI (sL σ k n i v) = gI σ := rfl
theorem gR_sL {σ : PS} {k n i : Nat} {v : Int64} : gR (sL σ k n i v) = gR σ := rfl
theorem gN_sL {σ : PS} {k n i : Nat} {v : Int64} : gN (sL σ k n i v) = gN σ := rfl
theorem gI_sR {σ : PS} {k n i : Nat} {v : Option Nat} : gI (sR σ k n i v) = gI σ := rfl
theorem gL_sR {σ : PS} {k n i : Nat} {v : Option Nat} : gL (sR σ k n i v) = gL σ := rfl
theorem gN_sR {σ : PS} {k n i : Nat} {v : Option Nat} : gN (sR σ k n i v) = gN σ := rfl
/-- an index as a number -/
def ix (i : Int32) : Nat := i.toNatClampNeg
def ib (i : Int32) (n : Nat) : Bool := !(decide (i < 0)) && decide (i.toNatClampNeg < n)
theorem ib_in {i : Int32} {n : Nat} (h : ib i n = true) : vp_in i n := by
  simp only [ib, Bool.and_eq_true, Bool.not_eq_true', decide_eq_false_iff_not, decide_eq_true_eq] at h
  exact fun q => q.elim h.1 (fun q => Nat.not_le.mpr h.2 q)
/-- a guard, a name, a reference that must be there -/
def gd {α : Type} (b : Bool) (k : Option α) : Option α := match b with
  | true => k
  | false => none
def nm {α β : Type} (e : α) (k : α → Option β) : Option β := k e
def dr {α : Type} (o : Option Nat) (b : Nat) (k : Nat → Option α) : Option α := match o with
  | none => none
  | some x => gd (decide (x < b)) (k x)
theorem gd_e {α : Type} {b : Bool} {k : Option α} {r : α} (h : gd b k = some r) : b = true ∧ k = some r := by
  cases b with
  | true => exact ⟨rfl, h⟩
  | false => exact absurd h (by simp [gd])
theorem nm_i {α β : Type} {e : α} {k : α → Option β} {r : β} (h : nm e k = some r) : ∃ y : α, y = e ∧ k y = some r := ⟨e, rfl, h⟩
theorem dr_e {α : Type} {o : Option Nat} {b : Nat} {k : Nat → Option α} {r : α} (h : dr o b k = some r) : ∃ x : Nat, o = some x ∧ x < b ∧ k x = some r := by
  cases o with
  | none => exact absurd h (by simp [dr])
  | some x =>
    obtain ⟨h1, h2⟩ := gd_e (show gd (decide (x < b)) (k x) = some r from h)
    exact ⟨x, rfl, of_decide_eq_true h1, h2⟩
theorem bd_e {α β : Type} {o : Option α} {k : α → Option β} {r : β} (h : o.bind k = some r) : ∃ y : α, o = some y ∧ k y = some r := by
  cases o with
  | none => exact absurd h (by simp)
  | some y => exact ⟨y, rfl, h⟩
theorem b_p {α : Type} {c : Prop} [Decidable c] {A B r : Option α} (hf : (if c then A else B) = r) (h : c) : A = r := by rw [if_pos h] at hf; exact hf
theorem b_n {α : Type} {c : Prop} [Decidable c] {A B r : Option α} (hf : (if c then A else B) = r) (h : ¬ c) : B = r := by rw [if_neg h] at hf; exact hf
/-- a number that is a truth -/
def isB (v : Int32) : Bool := decide (v = 0) || decide (v = 1)
theorem isB_or {v : Int32} (h : isB v = true) : v = 0 ∨ v = 1 := by simpa [isB] using h
theorem isB_nar {v : Int32} (h : isB v = true) : narrow .boolean (.int v) = .int v := by rcases isB_or h with rfl | rfl <;> rfl
theorem isB_fit {v : Int32} (h : isB v = true) : fits .boolean (.int v) = true := by rcases isB_or h with rfl | rfl <;> rfl
theorem isB_vp {v : Int32} (h : isB v = true) : vp_nar .boolean v = v := by rcases isB_or h with rfl | rfl <;> rfl
/-- the kinds: of array (0: an object; 1 int, 2 boolean, 3 long, 4 functions, 5 handlers), length, class, fields, what an array of references holds -/
def ak : Nat → Nat := fun k => match k with
  | 1 => 1
  | 2 => 1
  | 3 => 1
  | 5 => 1
  | 6 => 1
  | 55 => 1
  | 56 => 5
  | 57 => 1
  | 106 => 1
  | 107 => 1
  | 108 => 1
  | 151 => 1
  | 201 => 1
  | 202 => 3
  | 203 => 3
  | 204 => 1
  | 301 => 1
  | 302 => 1
  | 351 => 1
  | 352 => 1
  | 401 => 1
  | 402 => 1
  | 403 => 1
  | 453 => 4
  | 454 => 5
  | 455 => 1
  | 456 => 1
  | 501 => 1
  | 502 => 2
  | 503 => 2
  | 504 => 2
  | 507 => 1
  | 508 => 1
  | 510 => 1
  | 511 => 2
  | 512 => 1
  | 513 => 3
  | 514 => 1
  | 516 => 1
  | 517 => 1
  | 518 => 1
  | 519 => 2
  | 520 => 1
  | 521 => 1
  | 522 => 1
  | 523 => 1
  | 524 => 1
  | 525 => 1
  | 529 => 1
  | 532 => 1
  | 533 => 3
  | 535 => 2
  | 536 => 3
  | 537 => 1
  | 538 => 1
  | 539 => 3
  | _ => 0

def ln : Nat → Nat := fun k => match k with
  | 1 => 204
  | 2 => 204
  | 3 => 204
  | 5 => 17
  | 6 => 17
  | 55 => 8
  | 56 => 8
  | 57 => 8
  | 151 => 1000
  | 201 => 16
  | 202 => 16
  | 203 => 16
  | 204 => 16
  | 301 => 2
  | 302 => 2
  | 351 => 300
  | 352 => 300
  | 401 => 12
  | 402 => 16
  | 403 => 16
  | 453 => 4
  | 454 => 40
  | 455 => 2
  | 456 => 8
  | 501 => 12
  | 502 => 256
  | 503 => 256
  | 504 => 12
  | 507 => 300
  | 508 => 300
  | 510 => 4
  | 511 => 4
  | 512 => 4
  | 513 => 256
  | 514 => 4
  | 516 => 40
  | 517 => 40
  | 518 => 40
  | 519 => 40
  | 520 => 40
  | 521 => 80
  | 522 => 80
  | 523 => 80
  | 524 => 8
  | 525 => 2
  | 529 => 1000
  | 532 => 2
  | 533 => 2
  | 535 => 40
  | 536 => 68
  | 537 => 2
  | 538 => 2
  | 539 => 4
  | _ => 0

def ck : Nat → Nat := fun k => match k with
  | 0 => 0
  | 50 => 1
  | 100 => 2
  | 150 => 3
  | 200 => 4
  | 250 => 5
  | 300 => 6
  | 350 => 7
  | 400 => 8
  | 450 => 9
  | 500 => 10
  | _ => 0

def nf : Nat → Nat := fun k => match k with
  | 0 => 7
  | 50 => 10
  | 100 => 9
  | 150 => 6
  | 200 => 7
  | 250 => 6
  | 300 => 3
  | 350 => 3
  | 400 => 5
  | 450 => 12
  | 500 => 39
  | _ => 0

def rk : Nat → Nat := fun k => match k with
  | 56 => 100
  | 453 => 50
  | 454 => 100
  | _ => 0

def fk : Nat → Nat → Nat × Nat := fun k j => match k with
  | 0 => (match j with | 0 => (2, 1) | 1 => (2, 2) | 2 => (2, 3) | 3 => (0, 0) | 4 => (2, 5) | 5 => (2, 6) | 6 => (0, 0) | _ => (0, 0))
  | 50 => (match j with | 0 => (3, 400) | 1 => (0, 0) | 2 => (0, 0) | 3 => (2, 200) | 4 => (2, 55) | 5 => (2, 56) | 6 => (2, 57) | 7 => (0, 0) | 8 => (0, 0) | 9 => (0, 0) | _ => (0, 0))
  | 100 => (match j with | 0 => (5, 50) | 1 => (0, 0) | 2 => (0, 0) | 3 => (0, 0) | 4 => (0, 0) | 5 => (2, 106) | 6 => (2, 107) | 7 => (2, 108) | 8 => (0, 0) | _ => (0, 0))
  | 150 => (match j with | 0 => (2, 151) | 1 => (0, 0) | 2 => (0, 0) | 3 => (0, 0) | 4 => (0, 0) | 5 => (1, 0) | _ => (0, 0))
  | 200 => (match j with | 0 => (2, 201) | 1 => (2, 202) | 2 => (2, 203) | 3 => (2, 204) | 4 => (0, 0) | 5 => (0, 0) | 6 => (0, 0) | _ => (0, 0))
  | 250 => (match j with | 0 => (3, 0) | 1 => (4, 0) | 2 => (0, 0) | 3 => (0, 0) | 4 => (0, 0) | 5 => (0, 0) | _ => (0, 0))
  | 300 => (match j with | 0 => (2, 301) | 1 => (2, 302) | 2 => (0, 0) | _ => (0, 0))
  | 350 => (match j with | 0 => (2, 351) | 1 => (2, 352) | 2 => (0, 0) | _ => (0, 0))
  | 400 => (match j with | 0 => (2, 401) | 1 => (2, 402) | 2 => (2, 403) | 3 => (0, 0) | 4 => (0, 0) | _ => (0, 0))
  | 450 => (match j with | 0 => (3, 400) | 1 => (3, 350) | 2 => (2, 453) | 3 => (2, 454) | 4 => (2, 455) | 5 => (2, 456) | 6 => (3, 300) | 7 => (3, 150) | 8 => (3, 250) | 9 => (0, 0) | 10 => (0, 0) | 11 => (0, 0) | _ => (0, 0))
  | 500 => (match j with | 0 => (2, 501) | 1 => (2, 502) | 2 => (2, 503) | 3 => (2, 504) | 4 => (0, 0) | 5 => (0, 0) | 6 => (2, 507) | 7 => (2, 508) | 8 => (0, 0) | 9 => (2, 510) | 10 => (2, 511) | 11 => (2, 512) | 12 => (2, 513) | 13 => (2, 514) | 14 => (0, 0) | 15 => (2, 516) | 16 => (2, 517) | 17 => (2, 518) | 18 => (2, 519) | 19 => (2, 520) | 20 => (2, 521) | 21 => (2, 522) | 22 => (2, 523) | 23 => (2, 524) | 24 => (2, 525) | 25 => (0, 0) | 26 => (1, 0) | 27 => (0, 0) | 28 => (2, 529) | 29 => (0, 0) | 30 => (0, 0) | 31 => (2, 532) | 32 => (2, 533) | 33 => (0, 0) | 34 => (2, 535) | 35 => (2, 536) | 36 => (2, 537) | 37 => (2, 538) | 38 => (2, 539) | _ => (0, 0))
  | _ => (0, 0)

/-- an array's length: told by its kind, or (0) the memory's -/
def al (σ : PS) (k n : Nat) : Nat := match ln k with
  | 0 => gN σ k n
  | m + 1 => m + 1
/-- an object's field -/
def fv (ad : Nat → Nat → Nat) (σ : PS) (k n j : Nat) : Value := match fk k j with
  | (0, _) => .int (gI σ k n j)
  | (1, _) => .long (gL σ k n j)
  | (2, t) => .ref (ad t n)
  | (3, t) => .ref (ad t 0)
  | (4, t) => .ref (ad t 1)
  | (_, t) => va_rf ((gR σ k n j).map (ad t))
def fl (ad : Nat → Nat → Nat) (σ : PS) (k n : Nat) : List Value := (List.range (nf k)).map (fv ad σ k n)
/-- a cell's contents -/
def ent (ad : Nat → Nat → Nat) (ca : Nat → ClassId) (σ : PS) (k n : Nat) : va_E := match ak k with
  | 0 => .inr (ck k, fl ad σ k n)
  | 1 => .inl (ca 0, al σ k n, .inl (gI σ k n))
  | 2 => .inl (ca 1, al σ k n, .inl (gI σ k n))
  | 3 => .inl (ca 2, al σ k n, .inr (.inl (gL σ k n)))
  | 4 => .inl (ca 3, al σ k n, .inr (.inr (.inr (.inr (fun i => (gR σ k n i).map (ad (rk k)))))))
  | _ => .inl (ca 4, al σ k n, .inr (.inr (.inr (.inr (fun i => (gR σ k n i).map (ad (rk k)))))))
theorem ent_0 {ad : Nat → Nat → Nat} {ca : Nat → ClassId} {σ : PS} {k n : Nat} (h : ak k = 0) : ent ad ca σ k n = .inr (ck k, fl ad σ k n) := by simp [ent, h]
theorem ent_1 {ad : Nat → Nat → Nat} {ca : Nat → ClassId} {σ : PS} {k n : Nat} (h : ak k = 1) : ent ad ca σ k n = .inl (ca 0, al σ k n, .inl (gI σ k n)) := by simp [ent, h]
theorem ent_2 {ad : Nat → Nat → Nat} {ca : Nat → ClassId} {σ : PS} {k n : Nat} (h : ak k = 2) : ent ad ca σ k n = .inl (ca 1, al σ k n, .inl (gI σ k n)) := by simp [ent, h]
theorem ent_3 {ad : Nat → Nat → Nat} {ca : Nat → ClassId} {σ : PS} {k n : Nat} (h : ak k = 3) : ent ad ca σ k n = .inl (ca 2, al σ k n, .inr (.inl (gL σ k n))) := by simp [ent, h]
theorem ent_4 {ad : Nat → Nat → Nat} {ca : Nat → ClassId} {σ : PS} {k n : Nat} (h : ak k = 4) : ent ad ca σ k n = .inl (ca 3, al σ k n, .inr (.inr (.inr (.inr (fun i => (gR σ k n i).map (ad (rk k))))))) := by simp [ent, h]
theorem ent_5 {ad : Nat → Nat → Nat} {ca : Nat → ClassId} {σ : PS} {k n : Nat} (h : ak k = 5) : ent ad ca σ k n = .inl (ca 4, al σ k n, .inr (.inr (.inr (.inr (fun i => (gR σ k n i).map (ad (rk k))))))) := by simp [ent, h]
/-- a cell reads the memory at its own kind and number alone -/
theorem ent_congr {ad : Nat → Nat → Nat} {ca : Nat → ClassId} {σ τ : PS} {k n : Nat} (h1 : gI τ k n = gI σ k n) (h2 : gL τ k n = gL σ k n) (h3 : gR τ k n = gR σ k n) (h4 : gN τ k n = gN σ k n) : ent ad ca τ k n = ent ad ca σ k n := by
  have ha : al τ k n = al σ k n := by simp only [al, h4]
  have hf : fl ad τ k n = fl ad σ k n := by
    unfold fl
    refine List.map_congr_left (fun j _ => ?_)
    simp only [fv, h1, h2, h3]
  simp only [ent, ha, hf, h1, h2, h3]
def wld (ad : Nat → Nat → Nat) (ca : Nat → ClassId) (σ : PS) (L : List (Nat × Nat)) : va_W := L.map (fun q => (ad q.1 q.2, ent ad ca σ q.1 q.2))
/-- the addresses are apart, and of a kind -/
def DW (ad : Nat → Nat → Nat) (L : List (Nat × Nat)) (A : Nat → Prop) : Prop := (∀ (i j : Nat) (p q : Nat × Nat), L[i]? = some p → L[j]? = some q → ad p.1 p.2 = ad q.1 q.2 → i = j) ∧ ∀ q ∈ L, A (ad q.1 q.2)
theorem DW.d {ad : Nat → Nat → Nat} {L : List (Nat × Nat)} {A : Nat → Prop} (h : DW ad L A) (ca : Nat → ClassId) (σ : PS) : va_D A (wld ad ca σ L) := by
  have key : ∀ (k : Nat) (q : Nat × va_E), (wld ad ca σ L)[k]? = some q → ∃ x, L[k]? = some x ∧ q.1 = ad x.1 x.2 := by
    intro k q hk
    rw [wld, List.getElem?_map] at hk
    cases hx : L[k]? with
    | none => rw [hx] at hk; cases hk
    | some x => rw [hx] at hk; cases hk; exact ⟨x, rfl, rfl⟩
  refine ⟨fun i j p q hi hj hpq => ?_, fun k q hk => ?_⟩
  · obtain ⟨x, h1, h2⟩ := key i p hi
    obtain ⟨y, h3, h4⟩ := key j q hj
    exact h.1 i j x y h1 h3 (h2.symm.trans (hpq.trans h4))
  · obtain ⟨x, h1, h2⟩ := key k q hk
    rw [h2]
    exact h.2 x (List.mem_of_getElem? h1)
theorem wl_get {ad : Nat → Nat → Nat} (ca : Nat → ClassId) (σ : PS) {L : List (Nat × Nat)} {k n : Nat} (h : (k, n) ∈ L) : ∃ q0 : Nat, L[q0]? = some (k, n) ∧ (wld ad ca σ L)[q0]? = some (ad k n, ent ad ca σ k n) := by
  obtain ⟨q0, h0⟩ := List.getElem?_of_mem h
  exact ⟨q0, h0, by rw [wld, List.getElem?_map, h0]; rfl⟩
theorem wl_set {ad : Nat → Nat → Nat} {ca : Nat → ClassId} {σ τ : PS} {L : List (Nat × Nat)} {A : Nat → Prop} (hD : DW ad L A) {q0 k n : Nat} (h0 : L[q0]? = some (k, n)) {e : va_E} (he : ent ad ca τ k n = e) (ho : ∀ a b : Nat, ¬ (a = k ∧ b = n) → ent ad ca τ a b = ent ad ca σ a b) : (wld ad ca σ L).set q0 (ad k n, e) = wld ad ca τ L := by
  have hl := (List.getElem?_eq_some_iff.mp h0).1
  apply List.ext_getElem?
  intro i
  by_cases hi : i = q0
  · subst hi
    rw [List.getElem?_set_self (by rw [wld, List.length_map]; exact hl), wld, List.getElem?_map, h0, ← he]
    rfl
  · rw [List.getElem?_set_ne (Ne.symm hi), wld, wld, List.getElem?_map, List.getElem?_map]
    cases hx : L[i]? with
    | none => rfl
    | some x =>
      obtain ⟨a, b⟩ := x
      show some (ad a b, ent ad ca σ a b) = some (ad a b, ent ad ca τ a b)
      rw [ho a b (fun q => hi (hD.1 i q0 _ _ hx h0 (by show ad a b = ad k n; rw [q.1, q.2])))]
theorem wl_sI {ad : Nat → Nat → Nat} {ca : Nat → ClassId} {σ : PS} {k n i : Nat} {v : Int32} (a b : Nat) (h : ¬ (a = k ∧ b = n)) : ent ad ca (sI σ k n i v) a b = ent ad ca σ a b := ent_congr (gI_sI_ne h) rfl rfl rfl
theorem wl_sL {ad : Nat → Nat → Nat} {ca : Nat → ClassId} {σ : PS} {k n i : Nat} {v : Int64} (a b : Nat) (h : ¬ (a = k ∧ b = n)) : ent ad ca (sL σ k n i v) a b = ent ad ca σ a b := ent_congr rfl (gL_sL_ne h) rfl rfl
theorem wl_sR {ad : Nat → Nat → Nat} {ca : Nat → ClassId} {σ : PS} {k n i : Nat} {v : Option Nat} (a b : Nat) (h : ¬ (a = k ∧ b = n)) : ent ad ca (sR σ k n i v) a b = ent ad ca σ a b := ent_congr rfl rfl (gR_sR_ne h) rfl
theorem fl_set {ad : Nat → Nat → Nat} {σ τ : PS} {k n j : Nat} {v : Value} (hj : fv ad τ k n j = v) (ho : ∀ i, i ≠ j → fv ad τ k n i = fv ad σ k n i) : fl ad τ k n = (fl ad σ k n).set j v := by
  apply List.ext_getElem?
  intro i
  unfold fl
  by_cases hi : i = j
  · subst hi
    by_cases hl : i < nf k
    · rw [List.getElem?_set_self (by simpa using hl), List.getElem?_map, List.getElem?_range hl]
      exact congrArg some hj
    · rw [List.getElem?_eq_none (by simpa using hl), List.getElem?_eq_none (by simpa using hl)]
  · rw [List.getElem?_set_ne (Ne.symm hi), List.getElem?_map, List.getElem?_map]
    cases hx : (List.range (nf k))[i]? with
    | none => rfl
    | some x =>
      have hxi : x = i := by
        have h1 := (List.getElem?_eq_some_iff.mp hx)
        obtain ⟨h2, h3⟩ := h1
        simp at h3
        exact h3.symm
      subst hxi
      exact congrArg some (ho x hi)
theorem fv_sI {ad : Nat → Nat → Nat} {σ : PS} {k n j : Nat} {v : Int32} (i : Nat) (h : i ≠ j) : fv ad (sI σ k n j v) k n i = fv ad σ k n i := by
  simp only [fv, gI_sI_same, gL_sI, gR_sI, upd, if_neg h]
theorem fv_sL {ad : Nat → Nat → Nat} {σ : PS} {k n j : Nat} {v : Int64} (i : Nat) (h : i ≠ j) : fv ad (sL σ k n j v) k n i = fv ad σ k n i := by
  simp only [fv, gL_sL_same, gI_sL, gR_sL, vp_updL, if_neg h]
theorem fl_at {ad : Nat → Nat → Nat} {σ : PS} {k n j : Nat} (h : j < nf k) : (fl ad σ k n)[j]? = some (fv ad σ k n j) := by
  rw [fl, List.getElem?_map, List.getElem?_range h]; rfl
abbrev tyL (ca : Nat → ClassId) : List (ClassId × FieldType) := [(ca 0, .int), (ca 1, .boolean), (ca 2, .long), (ca 3, .object RX1), (ca 4, .object RX2)]
/-- a contract's start and its world behind -/
abbrev ctP (G : va_G) (ad : Nat → Nat → Nat) (ca : Nat → ClassId) (L : List (Nat × Nat)) (σ : PS) (Z : State → Prop) (av : List Value) : Array Value → State → Prop := va_Pc av (fun U => va_P G vwCl (wld ad ca σ L) U.heap ∧ va_K G vwCl (tyL ca) U ∧ Z U)
abbrev ctB (G : va_G) (ad : Nat → Nat → Nat) (ca : Nat → ClassId) (L : List (Nat × Nat)) : PS → State → Prop := fun u t => va_P G vwCl (wld ad ca u L) t.heap ∧ va_K G vwCl (tyL ca) t
/-- what of the start stays, whatever is called: it speaks of the tables alone -/
def zk (Z : State → Prop) : Prop := (∀ s U : State, s.WarmedH U.vm → Z s → Z U) ∧ ∀ (a : Array Value) (U : State) (g : JFrame) (mk : MethodId), Z U → Z (U.calling g mk a)
section XR
variable {p : Program} {l : Launch} {e : Env} {R : Room} {s : State} {m : MethodId} {args : Array Value} {below : List Frame} {meth : Method} {c : Code} {H : Heap} {locs : List Loc} {cells slots : Nat} {Q : State → Prop}
variable {cc : ByteArray} {pc : Nat} {ls : Array Slot} {rest : List Value} {G : va_G} {A : Nat → Prop} {ad : Nat → Nat → Nat} {ca : Nat → ClassId} {σ : PS} {L : List (Nat × Nat)} {H0 : Heap} {k n : Nat}
theorem x_get (hx : p.tables.exec = Jvm.exec) (hb : c.code = cc) {own C : String} {T : u_T} {N index : Nat} {Ts : List Cond} (hts : ∀ w ∈ Ts, w.before args s = true) (hin : ∀ w ∈ u_ws C T N, w ∈ Ts) (hown : s.vm.findClass own = some m.cls) (hK : va_K G vwCl (tyL ca) s) (hP : va_P G vwCl (wld ad ca σ L) H) (hq : (k, n) ∈ L) (hk : ak k = 0) (hc : vwCl[ck k]? = some (C, T, N)) (j : Nat) (hj : j < N) (hN : nf k = N) (hlink : (Cond.fieldLink own index (T j).1 (T j).2.1 (T j).2.2.1).before args s = true) {v : Value} (hv : fv ad σ k n j = v) (hdg : decode cc pc = .ok (.getfield index, 3))
    (kk : W p l e R s m args below meth c H locs cells slots Q (F0 m (pc + 3) ls (v :: rest))) : W p l e R s m args below meth c H locs cells slots Q (F0 m pc ls (.ref (ad k n) :: rest)) := by
  obtain ⟨q0, -, he⟩ := wl_get (ad := ad) ca σ hq
  rw [ent_0 hk] at he
  exact va_get hx hb hts hin hown hK hP q0 he hc j hj hlink (fun _ h => h) (by rw [fl_at (by rw [hN]; exact hj), hv]) hdg kk
theorem x_putI (hx : p.tables.exec = Jvm.exec) (hb : c.code = cc) {own C : String} {T : u_T} {N index : Nat} {Ts : List Cond} (hts : ∀ w ∈ Ts, w.before args s = true) (hin : ∀ w ∈ u_ws C T N, w ∈ Ts) (ty0 : Nat → FieldType) (hty : ∀ k, k < N → parseFieldDescriptor (T k).2.2.1 = some (ty0 k)) (hnm : ∀ a, a < N → ∀ b, b < N → a ≠ b → (T a).2.1 ≠ (T b).2.1) (hown : s.vm.findClass own = some m.cls) (hK : va_K G vwCl (tyL ca) s) (hD : DW ad L A) (hP : va_P G vwCl (wld ad ca σ L) H) (hS : va_S A H0 H locs) (hq : (k, n) ∈ L) (hk : ak k = 0) (hc : vwCl[ck k]? = some (C, T, N)) (j : Nat) (hj : j < N) (hN : nf k = N) (hlink : (Cond.fieldLink own index (T j).1 (T j).2.1 (T j).2.2.1).before args s = true) (hfin : (T j).2.2.2 = false) (hf0 : (fk k j).1 = 0) {v : Int32} (hn : narrow (ty0 j) (.int v) = .int v) (hfit : fits (ty0 j) (.int v) = true) (hdg : decode cc pc = .ok (.putfield index, 3))
    (kk : ∀ (H1 : Heap) (locs1 : List Loc), va_P G vwCl (wld ad ca (sI σ k n j v) L) H1 → va_S A H0 H1 locs1 → W p l e R s m args below meth c H1 locs1 cells slots Q (F0 m (pc + 3) ls rest)) : W p l e R s m args below meth c H locs cells slots Q (F0 m pc ls (.int v :: .ref (ad k n) :: rest)) := by
  obtain ⟨q0, h0, he⟩ := wl_get (ad := ad) ca σ hq
  rw [ent_0 hk] at he
  refine va_put hx hb hts hin ty0 hty hnm hown hK hP (hD.d ca σ) hS q0 he hc j hj hlink (fun _ h => h) hfin (hty j hj) hn hfit (by rw [fl, List.length_map, List.length_range, hN]; exact hj) hdg (fun H1 locs1 hP1 _ hS1 => kk H1 locs1 ?_ hS1)
  have hfj : fv ad (sI σ k n j v) k n j = .int v := by
    have h : fk k j = (0, (fk k j).2) := Prod.ext hf0 rfl
    unfold fv
    rw [h]
    show Value.int (gI (sI σ k n j v) k n j) = _
    rw [gI_sI_same]
    simp [upd]
  rw [wl_set (τ := sI σ k n j v) hD h0 (by rw [ent_0 hk, fl_set hfj fv_sI]) wl_sI] at hP1
  exact hP1
theorem x_putL (hx : p.tables.exec = Jvm.exec) (hb : c.code = cc) {own C : String} {T : u_T} {N index : Nat} {Ts : List Cond} (hts : ∀ w ∈ Ts, w.before args s = true) (hin : ∀ w ∈ u_ws C T N, w ∈ Ts) (ty0 : Nat → FieldType) (hty : ∀ k, k < N → parseFieldDescriptor (T k).2.2.1 = some (ty0 k)) (hnm : ∀ a, a < N → ∀ b, b < N → a ≠ b → (T a).2.1 ≠ (T b).2.1) (hown : s.vm.findClass own = some m.cls) (hK : va_K G vwCl (tyL ca) s) (hD : DW ad L A) (hP : va_P G vwCl (wld ad ca σ L) H) (hS : va_S A H0 H locs) (hq : (k, n) ∈ L) (hk : ak k = 0) (hc : vwCl[ck k]? = some (C, T, N)) (j : Nat) (hj : j < N) (hN : nf k = N) (hlink : (Cond.fieldLink own index (T j).1 (T j).2.1 (T j).2.2.1).before args s = true) (hfin : (T j).2.2.2 = false) (hf0 : (fk k j).1 = 1) {v : Int64} (hn : narrow (ty0 j) (.long v) = .long v) (hfit : fits (ty0 j) (.long v) = true) (hdg : decode cc pc = .ok (.putfield index, 3))
    (kk : ∀ (H1 : Heap) (locs1 : List Loc), va_P G vwCl (wld ad ca (sL σ k n j v) L) H1 → va_S A H0 H1 locs1 → W p l e R s m args below meth c H1 locs1 cells slots Q (F0 m (pc + 3) ls rest)) : W p l e R s m args below meth c H locs cells slots Q (F0 m pc ls (.long v :: .ref (ad k n) :: rest)) := by
  obtain ⟨q0, h0, he⟩ := wl_get (ad := ad) ca σ hq
  rw [ent_0 hk] at he
  refine va_put hx hb hts hin ty0 hty hnm hown hK hP (hD.d ca σ) hS q0 he hc j hj hlink (fun _ h => h) hfin (hty j hj) hn hfit (by rw [fl, List.length_map, List.length_range, hN]; exact hj) hdg (fun H1 locs1 hP1 _ hS1 => kk H1 locs1 ?_ hS1)
  have hfj : fv ad (sL σ k n j v) k n j = .long v := by
    have h : fk k j = (1, (fk k j).2) := Prod.ext hf0 rfl
    unfold fv
    rw [h]
    show Value.long (gL (sL σ k n j v) k n j) = _
    rw [gL_sL_same]
    simp [vp_updL]
  rw [wl_set (τ := sL σ k n j v) hD h0 (by rw [ent_0 hk, fl_set hfj fv_sL]) wl_sL] at hP1
  exact hP1
theorem x_iald (hx : p.tables.exec = Jvm.exec) (hb : c.code = cc) (hK : va_K G vwCl (tyL ca) s) (hP : va_P G vwCl (wld ad ca σ L) H) (hq : (k, n) ∈ L) (hk : ak k = 1) {i : Int32} (hi : ib i (al σ k n) = true) (hdg : decode cc pc = .ok (.iaload, 1))
    (kk : W p l e R s m args below meth c H locs cells slots Q (F0 m (pc + 1) ls (.int (gI σ k n (ix i)) :: rest))) : W p l e R s m args below meth c H locs cells slots Q (F0 m pc ls (.int i :: .ref (ad k n) :: rest)) := by
  obtain ⟨q0, -, he⟩ := wl_get (ad := ad) ca σ hq
  rw [ent_1 hk] at he
  exact va_iald hx hb hK hP q0 0 he rfl (ib_in hi) hdg kk
theorem x_zald (hx : p.tables.exec = Jvm.exec) (hb : c.code = cc) (hK : va_K G vwCl (tyL ca) s) (hP : va_P G vwCl (wld ad ca σ L) H) (hq : (k, n) ∈ L) (hk : ak k = 2) {i : Int32} (hi : ib i (al σ k n) = true) (hdg : decode cc pc = .ok (.baload, 1))
    (kk : W p l e R s m args below meth c H locs cells slots Q (F0 m (pc + 1) ls (.int (gI σ k n (ix i)) :: rest))) : W p l e R s m args below meth c H locs cells slots Q (F0 m pc ls (.int i :: .ref (ad k n) :: rest)) := by
  obtain ⟨q0, -, he⟩ := wl_get (ad := ad) ca σ hq
  rw [ent_2 hk] at he
  exact va_zald hx hb hK hP q0 1 he rfl (ib_in hi) hdg kk
theorem x_lald (hx : p.tables.exec = Jvm.exec) (hb : c.code = cc) (hK : va_K G vwCl (tyL ca) s) (hP : va_P G vwCl (wld ad ca σ L) H) (hq : (k, n) ∈ L) (hk : ak k = 3) {i : Int32} (hi : ib i (al σ k n) = true) (hdg : decode cc pc = .ok (.laload, 1))
    (kk : W p l e R s m args below meth c H locs cells slots Q (F0 m (pc + 1) ls (.long (gL σ k n (ix i)) :: rest))) : W p l e R s m args below meth c H locs cells slots Q (F0 m pc ls (.int i :: .ref (ad k n) :: rest)) := by
  obtain ⟨q0, -, he⟩ := wl_get (ad := ad) ca σ hq
  rw [ent_3 hk] at he
  exact va_lald hx hb hK hP q0 2 he rfl (ib_in hi) hdg kk
theorem x_aald (hx : p.tables.exec = Jvm.exec) (hb : c.code = cc) (hK : va_K G vwCl (tyL ca) s) (hP : va_P G vwCl (wld ad ca σ L) H) (hq : (k, n) ∈ L) {t : Nat} (hk : ak k = 4 ∧ rk k = t ∨ ak k = 5 ∧ rk k = t) {i : Int32} (hi : ib i (al σ k n) = true) (hdg : decode cc pc = .ok (.aaload, 1)) {o : Option Nat} (ho : o = gR σ k n (ix i))
    (kk : W p l e R s m args below meth c H locs cells slots Q (F0 m (pc + 1) ls (va_rf (o.map (ad t)) :: rest))) : W p l e R s m args below meth c H locs cells slots Q (F0 m pc ls (.int i :: .ref (ad k n) :: rest)) := by
  obtain ⟨q0, -, he⟩ := wl_get (ad := ad) ca σ hq
  subst ho
  rcases hk with ⟨hk, rfl⟩ | ⟨hk, rfl⟩
  · rw [ent_4 hk] at he
    exact va_aldq hx hb hK hP q0 3 he rfl (ib_in hi) hdg kk
  · rw [ent_5 hk] at he
    exact va_aldq hx hb hK hP q0 4 he rfl (ib_in hi) hdg kk
theorem x_iast (hx : p.tables.exec = Jvm.exec) (hb : c.code = cc) (hK : va_K G vwCl (tyL ca) s) (hD : DW ad L A) (hP : va_P G vwCl (wld ad ca σ L) H) (hS : va_S A H0 H locs) (hq : (k, n) ∈ L) (hk : ak k = 1) {i x : Int32} (hi : ib i (al σ k n) = true) (hdg : decode cc pc = .ok (.iastore, 1))
    (kk : ∀ (H1 : Heap) (locs1 : List Loc), va_P G vwCl (wld ad ca (sI σ k n (ix i) x) L) H1 → va_S A H0 H1 locs1 → W p l e R s m args below meth c H1 locs1 cells slots Q (F0 m (pc + 1) ls rest)) : W p l e R s m args below meth c H locs cells slots Q (F0 m pc ls (.int x :: .int i :: .ref (ad k n) :: rest)) := by
  obtain ⟨q0, h0, he⟩ := wl_get (ad := ad) ca σ hq
  rw [ent_1 hk] at he
  refine va_iast hx hb hK hP (hD.d ca σ) hS q0 0 he rfl (ib_in hi) hdg (fun H1 locs1 hP1 _ hS1 => kk H1 locs1 ?_ hS1)
  rw [wl_set (τ := sI σ k n (ix i) x) hD h0 (by rw [ent_1 hk, gI_sI_same]; rfl) wl_sI] at hP1
  exact hP1
theorem x_zast (hx : p.tables.exec = Jvm.exec) (hb : c.code = cc) (hK : va_K G vwCl (tyL ca) s) (hD : DW ad L A) (hP : va_P G vwCl (wld ad ca σ L) H) (hS : va_S A H0 H locs) (hq : (k, n) ∈ L) (hk : ak k = 2) {i x : Int32} (hB : isB x = true) (hi : ib i (al σ k n) = true) (hdg : decode cc pc = .ok (.bastore, 1))
    (kk : ∀ (H1 : Heap) (locs1 : List Loc), va_P G vwCl (wld ad ca (sI σ k n (ix i) x) L) H1 → va_S A H0 H1 locs1 → W p l e R s m args below meth c H1 locs1 cells slots Q (F0 m (pc + 1) ls rest)) : W p l e R s m args below meth c H locs cells slots Q (F0 m pc ls (.int x :: .int i :: .ref (ad k n) :: rest)) := by
  obtain ⟨q0, h0, he⟩ := wl_get (ad := ad) ca σ hq
  rw [ent_2 hk] at he
  refine va_zast hx hb hK hP (hD.d ca σ) hS q0 1 he rfl (ib_in hi) hdg (fun H1 locs1 hP1 _ hS1 => kk H1 locs1 ?_ hS1)
  rw [isB_vp hB, wl_set (τ := sI σ k n (ix i) x) hD h0 (by rw [ent_2 hk, gI_sI_same]; rfl) wl_sI] at hP1
  exact hP1
theorem x_last (hx : p.tables.exec = Jvm.exec) (hb : c.code = cc) (hK : va_K G vwCl (tyL ca) s) (hD : DW ad L A) (hP : va_P G vwCl (wld ad ca σ L) H) (hS : va_S A H0 H locs) (hq : (k, n) ∈ L) (hk : ak k = 3) {i : Int32} {x : Int64} (hi : ib i (al σ k n) = true) (hdg : decode cc pc = .ok (.lastore, 1))
    (kk : ∀ (H1 : Heap) (locs1 : List Loc), va_P G vwCl (wld ad ca (sL σ k n (ix i) x) L) H1 → va_S A H0 H1 locs1 → W p l e R s m args below meth c H1 locs1 cells slots Q (F0 m (pc + 1) ls rest)) : W p l e R s m args below meth c H locs cells slots Q (F0 m pc ls (.long x :: .int i :: .ref (ad k n) :: rest)) := by
  obtain ⟨q0, h0, he⟩ := wl_get (ad := ad) ca σ hq
  rw [ent_3 hk] at he
  refine va_last hx hb hK hP (hD.d ca σ) hS q0 2 he rfl (ib_in hi) hdg (fun H1 locs1 hP1 _ hS1 => kk H1 locs1 ?_ hS1)
  rw [wl_set (τ := sL σ k n (ix i) x) hD h0 (by rw [ent_3 hk, gL_sL_same]; rfl) wl_sL] at hP1
  exact hP1
theorem x_upm {f : Nat → Option Nat} {g : Nat → Nat} {i x : Nat} : (fun j => (va_up f i (some x) j).map g) = va_up (fun j => (f j).map g) i (some (g x)) := by
  funext j
  unfold va_up
  by_cases h : j = i <;> simp [h]
/-- a handler is laid into an array of handlers -/
theorem x_aast5 (hx : p.tables.exec = Jvm.exec) (hb : c.code = cc) (hK : va_K G vwCl (tyL ca) s) (hD : DW ad L A) (hP : va_P G vwCl (wld ad ca σ L) H) (hS : va_S A H0 H locs) (hq : (k, n) ∈ L) (hk : ak k = 5) {t x : Nat} (ht : rk k = t) (hr : vwCl[ck t]? = some (RX2, TX2, 9)) (hkt : ak t = 0) (hqx : (t, x) ∈ L) {i : Int32} (hi : ib i (al σ k n) = true) (hdg : decode cc pc = .ok (.aastore, 1))
    (kk : ∀ (H1 : Heap) (locs1 : List Loc), va_P G vwCl (wld ad ca (sR σ k n (ix i) (some x)) L) H1 → va_S A H0 H1 locs1 → W p l e R s m args below meth c H1 locs1 cells slots Q (F0 m (pc + 1) ls rest)) : W p l e R s m args below meth c H locs cells slots Q (F0 m pc ls (.ref (ad t x) :: .int i :: .ref (ad k n) :: rest)) := by
  obtain ⟨q0, h0, he⟩ := wl_get (ad := ad) ca σ hq
  obtain ⟨q1, -, he1⟩ := wl_get (ad := ad) ca σ hqx
  rw [ent_5 hk] at he
  rw [ent_0 hkt] at he1
  refine va_astq hx hb hK hP (hD.d ca σ) hS q0 4 q1 (ck t) (r := (RX2, TX2, 9)) he rfl he1 hr (ib_in hi) hdg (fun H1 locs1 hP1 _ hS1 => kk H1 locs1 ?_ hS1)
  rw [wl_set (τ := sR σ k n (ix i) (some x)) hD h0 (by rw [ent_5 hk, gR_sR_same, ht, x_upm]; rfl) wl_sR] at hP1
  exact hP1
theorem x_alen (hx : p.tables.exec = Jvm.exec) (hb : c.code = cc) (hK : va_K G vwCl (tyL ca) s) (hP : va_P G vwCl (wld ad ca σ L) H) (hq : (k, n) ∈ L) (hk : ak k = 1) {v : Int32} (hv : nI (al σ k n) = v) (hdg : decode cc pc = .ok (.arraylength, 1))
    (kk : W p l e R s m args below meth c H locs cells slots Q (F0 m (pc + 1) ls (.int v :: rest))) : W p l e R s m args below meth c H locs cells slots Q (F0 m pc ls (.ref (ad k n) :: rest)) := by
  obtain ⟨q0, -, he⟩ := wl_get (ad := ad) ca σ hq
  rw [ent_1 hk] at he
  exact va_alen hx hb hK hP q0 0 he (ty := .int) rfl hv hdg kk
/-- a value gets its name -/
theorem x_nmI {x y : Int32} (h : y = x) (kk : W p l e R s m args below meth c H locs cells slots Q (F0 m pc ls (.int y :: rest))) : W p l e R s m args below meth c H locs cells slots Q (F0 m pc ls (.int x :: rest)) := h ▸ kk
theorem x_nmL {x y : Int64} (h : y = x) (kk : W p l e R s m args below meth c H locs cells slots Q (F0 m pc ls (.long y :: rest))) : W p l e R s m args below meth c H locs cells slots Q (F0 m pc ls (.long x :: rest)) := h ▸ kk
/-- references that may be null -/
theorem x_aload_nQ (hx : p.tables.exec = Jvm.exec) (hb : c.code = cc) {k : Fin 4} {i : Nat} {o : Option Nat} (hdg : decode cc pc = .ok (.aload_n k, 1)) (hi : (k : Nat) = i) (hl : ls[i]? = some (.val (va_rf o)))
    (kk : W p l e R s m args below meth c H locs cells slots Q (F0 m (pc + 1) ls (va_rf o :: rest))) : W p l e R s m args below meth c H locs cells slots Q (F0 m pc ls rest) := by
  cases o with
  | none => exact lv_aload_nN hx hb hdg hi hl kk
  | some a => exact lv_aload_n hx hb hdg hi hl kk
theorem x_aloadQ (hx : p.tables.exec = Jvm.exec) (hb : c.code = cc) {i : Nat} {o : Option Nat} (hdg : decode cc pc = .ok (.aload i, 2)) (hl : ls[i]? = some (.val (va_rf o)))
    (kk : W p l e R s m args below meth c H locs cells slots Q (F0 m (pc + 2) ls (va_rf o :: rest))) : W p l e R s m args below meth c H locs cells slots Q (F0 m pc ls rest) := by
  cases o with
  | none => exact lv_aloadN hx hb hdg hl kk
  | some a => exact lv_aload hx hb hdg hl kk
theorem x_astore_nQ (hx : p.tables.exec = Jvm.exec) (hb : c.code = cc) {k : Fin 4} {i nL : Nat} {o : Option Nat} {lv lv' : List (Nat × Value)} (hdg : decode cc pc = .ok (.astore_n k, 1)) (hi : (k : Nat) = i) (h : lv_has ls nL lv) (hn : i < nL) (hl : (i, va_rf o) :: lv.filter (fun q => !(q.1 == i) && !(q.1 + 1 == i && q.2.category == 2)) = lv')
    (kk : ∀ ls' : Array Slot, lv_has ls' nL lv' → W p l e R s m args below meth c H locs cells slots Q (F0 m (pc + 1) ls' rest)) : W p l e R s m args below meth c H locs cells slots Q (F0 m pc ls (va_rf o :: rest)) := by
  cases o with
  | none => exact lv_astore_nN hx hb hdg hi h hn hl kk
  | some a => exact lv_astore_n hx hb hdg hi h hn hl kk
theorem x_astoreQ (hx : p.tables.exec = Jvm.exec) (hb : c.code = cc) {i nL : Nat} {o : Option Nat} {lv lv' : List (Nat × Value)} (hdg : decode cc pc = .ok (.astore i, 2)) (h : lv_has ls nL lv) (hn : i < nL) (hl : (i, va_rf o) :: lv.filter (fun q => !(q.1 == i) && !(q.1 + 1 == i && q.2.category == 2)) = lv')
    (kk : ∀ ls' : Array Slot, lv_has ls' nL lv' → W p l e R s m args below meth c H locs cells slots Q (F0 m (pc + 2) ls' rest)) : W p l e R s m args below meth c H locs cells slots Q (F0 m pc ls (va_rf o :: rest)) := by
  cases o with
  | none => exact lv_astoreN hx hb hdg h hn hl kk
  | some a => exact lv_astore hx hb hdg h hn hl kk
/-- the ends -/
theorem x_iret {σ' : PS} {v r : Int32} (hx : p.tables.exec = Jvm.exec) (hb : c.code = cc) (hr : meth.sig.returnType = some .int) (hlocks : meth.locks = false) (hK : va_K G vwCl (tyL ca) s) (hP : va_P G vwCl (wld ad ca σ L) H) (hS : va_S A s.heap H locs) (h1 : v = r) (h2 : σ = σ') (hdg : decode cc pc = .ok (.ireturn, 1)) : W p l e R s m args below meth c H locs cells slots (MQ below (va_Qi (fun r' u => r' = r ∧ u = σ') (ctB G ad ca L) A) args s cells slots A) (F0 m pc ls [.int v]) :=
  W.iret hx hb hr (fun t ht hW => ⟨⟨v, σ, rfl, ⟨h1, h2⟩, by rw [ht]; exact hP, va_K.moved hW.alike hK⟩, hS.F ht⟩) hS.2.2 hdg
theorem x_zret {σ' : PS} {v r : Int32} (hx : p.tables.exec = Jvm.exec) (hb : c.code = cc) (hr : meth.sig.returnType = some .boolean) (hlocks : meth.locks = false) (hK : va_K G vwCl (tyL ca) s) (hP : va_P G vwCl (wld ad ca σ L) H) (hS : va_S A s.heap H locs) (hB : isB v = true) (h1 : v = r) (h2 : σ = σ') (hdg : decode cc pc = .ok (.ireturn, 1)) : W p l e R s m args below meth c H locs cells slots (MQ below (va_Qi (fun r' u => r' = r ∧ u = σ') (ctB G ad ca L) A) args s cells slots A) (F0 m pc ls [.int v]) :=
  W.zret hx hb hr (isB_nar hB) (fun t ht hW => ⟨⟨v, σ, rfl, ⟨h1, h2⟩, by rw [ht]; exact hP, va_K.moved hW.alike hK⟩, hS.F ht⟩) hS.2.2 hdg
theorem x_lret {σ' : PS} {v r : Int64} (hx : p.tables.exec = Jvm.exec) (hb : c.code = cc) (hr : meth.sig.returnType = some .long) (hlocks : meth.locks = false) (hK : va_K G vwCl (tyL ca) s) (hP : va_P G vwCl (wld ad ca σ L) H) (hS : va_S A s.heap H locs) (h1 : v = r) (h2 : σ = σ') (hdg : decode cc pc = .ok (.lreturn, 1)) : W p l e R s m args below meth c H locs cells slots (MQ below (va_Ql (fun r' u => r' = r ∧ u = σ') (ctB G ad ca L) A) args s cells slots A) (F0 m pc ls [.long v]) :=
  W.lret hx hb hr (fun t ht hW => ⟨⟨v, σ, rfl, ⟨h1, h2⟩, by rw [ht]; exact hP, va_K.moved hW.alike hK⟩, hS.F ht⟩) hS.2.2 hdg
theorem x_vret {σ' : PS} (hx : p.tables.exec = Jvm.exec) (hb : c.code = cc) (hr : meth.sig.returnType = none) (hlocks : meth.locks = false) (hK : va_K G vwCl (tyL ca) s) (hP : va_P G vwCl (wld ad ca σ L) H) (hS : va_S A s.heap H locs) (h2 : σ = σ') (hdg : decode cc pc = .ok (.return_, 1)) : W p l e R s m args below meth c H locs cells slots (MQ below (va_Qv (fun u => u = σ') (ctB G ad ca L) A) args s cells slots A) (F0 m pc ls []) :=
  W.vret hx hb hr (fun t ht hW => ⟨⟨σ, rfl, h2, by rw [ht]; exact hP, va_K.moved hW.alike hK⟩, hS.F ht⟩) hS.2.2 hdg
theorem x_aret {σ' : PS} {o r : Option Nat} {t0 : Nat} {C : String} (hx : p.tables.exec = Jvm.exec) (hb : c.code = cc) (hr : meth.sig.returnType = some (.object C)) (hlocks : meth.locks = false) (hK : va_K G vwCl (tyL ca) s) (hP : va_P G vwCl (wld ad ca σ L) H) (hS : va_S A s.heap H locs) (h1 : o = r) (h2 : σ = σ') (hdg : decode cc pc = .ok (.areturn, 1)) : W p l e R s m args below meth c H locs cells slots (MQ below (va_Qq (fun r' u => r' = r.map (ad t0) ∧ u = σ') (ctB G ad ca L) A) args s cells slots A) (F0 m pc ls [va_rf (o.map (ad t0))]) :=
  W.aret hx hb hr (Or.inl ⟨_, rfl⟩) (va_rf_or _) (fun t ht hW => ⟨⟨o.map (ad t0), σ, rfl, ⟨by rw [h1], h2⟩, by rw [ht]; exact hP, va_K.moved hW.alike hK⟩, hS.F ht⟩) hS.2.2 hdg
/-- calls: the same world before and behind -/
theorem x_blind {av : List Value} {Z : State → Prop} (hZ : zk Z) : FrameBlind (ctP G ad ca L σ Z av) := fun a U g mk q => ⟨q.1, q.2.1, va_K.moved (u := U) (U := U.calling g mk a) (Vm.Alike.refl U.vm) q.2.2.1, hZ.2 _ _ _ _ q.2.2.2⟩
theorem x_pc {av : List Value} {Z : State → Prop} (hZ : zk Z) (hz : Z s) (hK : va_K G vwCl (tyL ca) s) (hP : va_P G vwCl (wld ad ca σ L) H) : ∀ U : State, U.heap = H → s.WarmedH U.vm → ctP G ad ca L σ Z av av.toArray U := fun U hU hW => ⟨rfl, by rw [hU]; exact hP, va_K.moved hW.alike hK, hZ.1 _ _ hW hz⟩
theorem x_prV {Z : State → Prop} {As : List Value} {C : String} {T : u_T} {N : Nat} (hZ : zk Z) (hz : Z s) (hK : va_K G vwCl (tyL ca) s) (hP : va_P G vwCl (wld ad ca σ L) H) (hq : (k, n) ∈ L) (hk : ak k = 0) (hc : vwCl[ck k]? = some (C, T, N)) : PreV s H C (ad k n) (ctP G ad ca L σ Z (.ref (ad k n) :: As)) As := by
  obtain ⟨q0, -, he⟩ := wl_get (ad := ad) ca σ hq
  rw [ent_0 hk] at he
  exact ⟨x_blind hZ, va_recv hK hP hc he, x_pc hZ hz hK hP⟩
theorem x_prS {Z : State → Prop} {As : List Value} (hZ : zk Z) (hz : Z s) (hK : va_K G vwCl (tyL ca) s) (hP : va_P G vwCl (wld ad ca σ L) H) : PreS s H (ctP G ad ca L σ Z As) As := ⟨x_blind hZ, x_pc hZ hz hK hP⟩
variable {st0 : List Value} {a : Array Value} {σ' : PS}
theorem x_ci {r : Int32} (hr : va_Run p l e R s m args below meth c H locs cells slots 0 0 (F0 m pc ls st0) rest (va_Qi (fun r' u => r' = r ∧ u = σ') (ctB G ad ca L) A a) A) (hS : va_S A H0 H locs) (kk : ∀ (H1 : Heap) (locs1 : List Loc), va_P G vwCl (wld ad ca σ' L) H1 → va_S A H0 H1 locs1 → W p l e R s m args below meth c H1 locs1 cells slots Q (F0 m (pc + 3) ls (.int r :: rest))) : W p l e R s m args below meth c H locs cells slots Q (F0 m pc ls st0) :=
  va_calli hr hS (fun _ _ h => h) (fun _ h => h) (fun r1 u t H1 locs1 ht _ hw hB _ _ hS1 => by obtain ⟨rfl, rfl⟩ := hw; exact kk H1 locs1 (by rw [← ht]; exact hB.1) hS1)
theorem x_cl {r : Int64} (hr : va_Run p l e R s m args below meth c H locs cells slots 0 0 (F0 m pc ls st0) rest (va_Ql (fun r' u => r' = r ∧ u = σ') (ctB G ad ca L) A a) A) (hS : va_S A H0 H locs) (kk : ∀ (H1 : Heap) (locs1 : List Loc), va_P G vwCl (wld ad ca σ' L) H1 → va_S A H0 H1 locs1 → W p l e R s m args below meth c H1 locs1 cells slots Q (F0 m (pc + 3) ls (.long r :: rest))) : W p l e R s m args below meth c H locs cells slots Q (F0 m pc ls st0) :=
  va_calll hr hS (fun _ _ h => h) (fun _ h => h) (fun r1 u t H1 locs1 ht _ hw hB _ _ hS1 => by obtain ⟨rfl, rfl⟩ := hw; exact kk H1 locs1 (by rw [← ht]; exact hB.1) hS1)
theorem x_cv (hr : va_Run p l e R s m args below meth c H locs cells slots 0 0 (F0 m pc ls st0) rest (va_Qv (fun u => u = σ') (ctB G ad ca L) A a) A) (hS : va_S A H0 H locs) (kk : ∀ (H1 : Heap) (locs1 : List Loc), va_P G vwCl (wld ad ca σ' L) H1 → va_S A H0 H1 locs1 → W p l e R s m args below meth c H1 locs1 cells slots Q (F0 m (pc + 3) ls rest)) : W p l e R s m args below meth c H locs cells slots Q (F0 m pc ls st0) :=
  va_callv hr hS (fun _ _ h => h) (fun _ h => h) (fun u t H1 locs1 ht _ hw hB _ _ hS1 => by obtain rfl := hw; exact kk H1 locs1 (by rw [← ht]; exact hB.1) hS1)
theorem x_cq {r : Option Nat} (hr : va_Run p l e R s m args below meth c H locs cells slots 0 0 (F0 m pc ls st0) rest (va_Qq (fun r' u => r' = r ∧ u = σ') (ctB G ad ca L) A a) A) (hS : va_S A H0 H locs) (kk : ∀ (H1 : Heap) (locs1 : List Loc), va_P G vwCl (wld ad ca σ' L) H1 → va_S A H0 H1 locs1 → W p l e R s m args below meth c H1 locs1 cells slots Q (F0 m (pc + 3) ls (va_rf r :: rest))) : W p l e R s m args below meth c H locs cells slots Q (F0 m pc ls st0) :=
  va_callq hr hS (fun _ _ h => h) (fun _ h => h) (fun r1 u t H1 locs1 ht _ hw hB _ _ hS1 => by obtain ⟨rfl, rfl⟩ := hw; exact kk H1 locs1 (by rw [← ht]; exact hB.1) hS1)
end XR
def pl (m : Nat) (ks : List Nat) : List (Nat × Nat) := (List.range m).flatMap (fun n => ks.map (fun k => (k, n)))
theorem pl_in {m : Nat} {ks : List Nat} {k n : Nat} (hk : k ∈ ks) (hn : n < m) : (k, n) ∈ pl m ks := List.mem_flatMap.mpr ⟨n, List.mem_range.mpr hn, List.mem_map.mpr ⟨k, hk, rfl⟩⟩
def qLS : List Nat := [150, 151, 250, 300, 301, 302, 350, 351, 352, 400, 401, 402, 403, 450, 453, 454, 455, 456]
def qLC0 : List Nat := [0, 1, 2, 3, 5, 6]
def qLF : List Nat := [50, 55, 56, 57, 200, 201, 202, 203, 204]
def qLH : List Nat := [100, 106, 107, 108]
/-- the cells of the class with its z.1 functions and z.2 handlers; of the model -/
def LC (z : Nat × Nat) : List (Nat × Nat) := pl 1 qLS ++ (pl 2 qLC0 ++ (pl z.1 qLF ++ pl z.2 qLH))
def LM : List (Nat × Nat) := pl 1 [500, 501, 502, 503, 504, 507, 508, 510, 511, 512, 513, 514, 516, 517, 518, 519, 520, 521, 522, 523, 524, 525, 529, 532, 533, 535, 536, 537, 538, 539]
theorem mk_0 {z : Nat × Nat} {n : Nat} (hn : n < 2) : (0, n) ∈ LC z := List.mem_append_right _ (List.mem_append_left _ (pl_in (by decide) hn))
theorem mk_1 {z : Nat × Nat} {n : Nat} (hn : n < 2) : (1, n) ∈ LC z := List.mem_append_right _ (List.mem_append_left _ (pl_in (by decide) hn))
theorem mk_2 {z : Nat × Nat} {n : Nat} (hn : n < 2) : (2, n) ∈ LC z := List.mem_append_right _ (List.mem_append_left _ (pl_in (by decide) hn))
theorem mk_3 {z : Nat × Nat} {n : Nat} (hn : n < 2) : (3, n) ∈ LC z := List.mem_append_right _ (List.mem_append_left _ (pl_in (by decide) hn))
theorem mk_5 {z : Nat × Nat} {n : Nat} (hn : n < 2) : (5, n) ∈ LC z := List.mem_append_right _ (List.mem_append_left _ (pl_in (by decide) hn))
theorem mk_6 {z : Nat × Nat} {n : Nat} (hn : n < 2) : (6, n) ∈ LC z := List.mem_append_right _ (List.mem_append_left _ (pl_in (by decide) hn))
theorem mk_50 {z : Nat × Nat} {n : Nat} (hn : n < z.1) : (50, n) ∈ LC z := List.mem_append_right _ (List.mem_append_right _ (List.mem_append_left _ (pl_in (by decide) hn)))
theorem mk_55 {z : Nat × Nat} {n : Nat} (hn : n < z.1) : (55, n) ∈ LC z := List.mem_append_right _ (List.mem_append_right _ (List.mem_append_left _ (pl_in (by decide) hn)))
theorem mk_56 {z : Nat × Nat} {n : Nat} (hn : n < z.1) : (56, n) ∈ LC z := List.mem_append_right _ (List.mem_append_right _ (List.mem_append_left _ (pl_in (by decide) hn)))
theorem mk_57 {z : Nat × Nat} {n : Nat} (hn : n < z.1) : (57, n) ∈ LC z := List.mem_append_right _ (List.mem_append_right _ (List.mem_append_left _ (pl_in (by decide) hn)))
theorem mk_100 {z : Nat × Nat} {n : Nat} (hn : n < z.2) : (100, n) ∈ LC z := List.mem_append_right _ (List.mem_append_right _ (List.mem_append_right _ (pl_in (by decide) hn)))
theorem mk_106 {z : Nat × Nat} {n : Nat} (hn : n < z.2) : (106, n) ∈ LC z := List.mem_append_right _ (List.mem_append_right _ (List.mem_append_right _ (pl_in (by decide) hn)))
theorem mk_107 {z : Nat × Nat} {n : Nat} (hn : n < z.2) : (107, n) ∈ LC z := List.mem_append_right _ (List.mem_append_right _ (List.mem_append_right _ (pl_in (by decide) hn)))
theorem mk_108 {z : Nat × Nat} {n : Nat} (hn : n < z.2) : (108, n) ∈ LC z := List.mem_append_right _ (List.mem_append_right _ (List.mem_append_right _ (pl_in (by decide) hn)))
theorem mk_150 {z : Nat × Nat} {n : Nat} (hn : n < 1) : (150, n) ∈ LC z := List.mem_append_left _ (pl_in (by decide) hn)
theorem mk_151 {z : Nat × Nat} {n : Nat} (hn : n < 1) : (151, n) ∈ LC z := List.mem_append_left _ (pl_in (by decide) hn)
theorem mk_200 {z : Nat × Nat} {n : Nat} (hn : n < z.1) : (200, n) ∈ LC z := List.mem_append_right _ (List.mem_append_right _ (List.mem_append_left _ (pl_in (by decide) hn)))
theorem mk_201 {z : Nat × Nat} {n : Nat} (hn : n < z.1) : (201, n) ∈ LC z := List.mem_append_right _ (List.mem_append_right _ (List.mem_append_left _ (pl_in (by decide) hn)))
theorem mk_202 {z : Nat × Nat} {n : Nat} (hn : n < z.1) : (202, n) ∈ LC z := List.mem_append_right _ (List.mem_append_right _ (List.mem_append_left _ (pl_in (by decide) hn)))
theorem mk_203 {z : Nat × Nat} {n : Nat} (hn : n < z.1) : (203, n) ∈ LC z := List.mem_append_right _ (List.mem_append_right _ (List.mem_append_left _ (pl_in (by decide) hn)))
theorem mk_204 {z : Nat × Nat} {n : Nat} (hn : n < z.1) : (204, n) ∈ LC z := List.mem_append_right _ (List.mem_append_right _ (List.mem_append_left _ (pl_in (by decide) hn)))
theorem mk_250 {z : Nat × Nat} {n : Nat} (hn : n < 1) : (250, n) ∈ LC z := List.mem_append_left _ (pl_in (by decide) hn)
theorem mk_300 {z : Nat × Nat} {n : Nat} (hn : n < 1) : (300, n) ∈ LC z := List.mem_append_left _ (pl_in (by decide) hn)
theorem mk_301 {z : Nat × Nat} {n : Nat} (hn : n < 1) : (301, n) ∈ LC z := List.mem_append_left _ (pl_in (by decide) hn)
theorem mk_302 {z : Nat × Nat} {n : Nat} (hn : n < 1) : (302, n) ∈ LC z := List.mem_append_left _ (pl_in (by decide) hn)
theorem mk_350 {z : Nat × Nat} {n : Nat} (hn : n < 1) : (350, n) ∈ LC z := List.mem_append_left _ (pl_in (by decide) hn)
theorem mk_351 {z : Nat × Nat} {n : Nat} (hn : n < 1) : (351, n) ∈ LC z := List.mem_append_left _ (pl_in (by decide) hn)
theorem mk_352 {z : Nat × Nat} {n : Nat} (hn : n < 1) : (352, n) ∈ LC z := List.mem_append_left _ (pl_in (by decide) hn)
theorem mk_400 {z : Nat × Nat} {n : Nat} (hn : n < 1) : (400, n) ∈ LC z := List.mem_append_left _ (pl_in (by decide) hn)
theorem mk_401 {z : Nat × Nat} {n : Nat} (hn : n < 1) : (401, n) ∈ LC z := List.mem_append_left _ (pl_in (by decide) hn)
theorem mk_402 {z : Nat × Nat} {n : Nat} (hn : n < 1) : (402, n) ∈ LC z := List.mem_append_left _ (pl_in (by decide) hn)
theorem mk_403 {z : Nat × Nat} {n : Nat} (hn : n < 1) : (403, n) ∈ LC z := List.mem_append_left _ (pl_in (by decide) hn)
theorem mk_450 {z : Nat × Nat} {n : Nat} (hn : n < 1) : (450, n) ∈ LC z := List.mem_append_left _ (pl_in (by decide) hn)
theorem mk_453 {z : Nat × Nat} {n : Nat} (hn : n < 1) : (453, n) ∈ LC z := List.mem_append_left _ (pl_in (by decide) hn)
theorem mk_454 {z : Nat × Nat} {n : Nat} (hn : n < 1) : (454, n) ∈ LC z := List.mem_append_left _ (pl_in (by decide) hn)
theorem mk_455 {z : Nat × Nat} {n : Nat} (hn : n < 1) : (455, n) ∈ LC z := List.mem_append_left _ (pl_in (by decide) hn)
theorem mk_456 {z : Nat × Nat} {n : Nat} (hn : n < 1) : (456, n) ∈ LC z := List.mem_append_left _ (pl_in (by decide) hn)
theorem mk_500 {n : Nat} (hn : n < 1) : (500, n) ∈ LM := pl_in (by decide) hn
theorem mk_501 {n : Nat} (hn : n < 1) : (501, n) ∈ LM := pl_in (by decide) hn
theorem mk_502 {n : Nat} (hn : n < 1) : (502, n) ∈ LM := pl_in (by decide) hn
theorem mk_503 {n : Nat} (hn : n < 1) : (503, n) ∈ LM := pl_in (by decide) hn
theorem mk_504 {n : Nat} (hn : n < 1) : (504, n) ∈ LM := pl_in (by decide) hn
theorem mk_507 {n : Nat} (hn : n < 1) : (507, n) ∈ LM := pl_in (by decide) hn
theorem mk_508 {n : Nat} (hn : n < 1) : (508, n) ∈ LM := pl_in (by decide) hn
theorem mk_510 {n : Nat} (hn : n < 1) : (510, n) ∈ LM := pl_in (by decide) hn
theorem mk_511 {n : Nat} (hn : n < 1) : (511, n) ∈ LM := pl_in (by decide) hn
theorem mk_512 {n : Nat} (hn : n < 1) : (512, n) ∈ LM := pl_in (by decide) hn
theorem mk_513 {n : Nat} (hn : n < 1) : (513, n) ∈ LM := pl_in (by decide) hn
theorem mk_514 {n : Nat} (hn : n < 1) : (514, n) ∈ LM := pl_in (by decide) hn
theorem mk_516 {n : Nat} (hn : n < 1) : (516, n) ∈ LM := pl_in (by decide) hn
theorem mk_517 {n : Nat} (hn : n < 1) : (517, n) ∈ LM := pl_in (by decide) hn
theorem mk_518 {n : Nat} (hn : n < 1) : (518, n) ∈ LM := pl_in (by decide) hn
theorem mk_519 {n : Nat} (hn : n < 1) : (519, n) ∈ LM := pl_in (by decide) hn
theorem mk_520 {n : Nat} (hn : n < 1) : (520, n) ∈ LM := pl_in (by decide) hn
theorem mk_521 {n : Nat} (hn : n < 1) : (521, n) ∈ LM := pl_in (by decide) hn
theorem mk_522 {n : Nat} (hn : n < 1) : (522, n) ∈ LM := pl_in (by decide) hn
theorem mk_523 {n : Nat} (hn : n < 1) : (523, n) ∈ LM := pl_in (by decide) hn
theorem mk_524 {n : Nat} (hn : n < 1) : (524, n) ∈ LM := pl_in (by decide) hn
theorem mk_525 {n : Nat} (hn : n < 1) : (525, n) ∈ LM := pl_in (by decide) hn
theorem mk_529 {n : Nat} (hn : n < 1) : (529, n) ∈ LM := pl_in (by decide) hn
theorem mk_532 {n : Nat} (hn : n < 1) : (532, n) ∈ LM := pl_in (by decide) hn
theorem mk_533 {n : Nat} (hn : n < 1) : (533, n) ∈ LM := pl_in (by decide) hn
theorem mk_535 {n : Nat} (hn : n < 1) : (535, n) ∈ LM := pl_in (by decide) hn
theorem mk_536 {n : Nat} (hn : n < 1) : (536, n) ∈ LM := pl_in (by decide) hn
theorem mk_537 {n : Nat} (hn : n < 1) : (537, n) ∈ LM := pl_in (by decide) hn
theorem mk_538 {n : Nat} (hn : n < 1) : (538, n) ∈ LM := pl_in (by decide) hn
theorem mk_539 {n : Nat} (hn : n < 1) : (539, n) ∈ LM := pl_in (by decide) hn
theorem h01 : 0 < 1 := by decide
theorem h02 : 0 < 2 := by decide
theorem h12 : 1 < 2 := by decide
noncomputable def fuel : Nat := Classical.choose (⟨100000, Nat.le_refl _⟩ : ∃ n : Nat, 100000 ≤ n)
theorem fuel_ge : 100000 ≤ fuel := Classical.choose_spec (⟨100000, Nat.le_refl _⟩ : ∃ n : Nat, 100000 ≤ n)
def bp {α β γ : Type} (o : Option (α × β)) (k : α → β → Option γ) : Option γ := o.bind (fun t => k t.1 t.2)
theorem bp_e {α β γ : Type} {o : Option (α × β)} {k : α → β → Option γ} {r : γ} (h : bp o k = some r) : ∃ (a : α) (b : β), o = some (a, b) ∧ k a b = some r := by
  cases o with
  | none => exact absurd h (by simp [bp])
  | some t => exact ⟨t.1, t.2, rfl, h⟩
def oc {α : Type} (o : Option Nat) (b : Nat) (A : Option α) (B : Nat → Option α) : Option α := match o with
  | none => A
  | some x => gd (decide (x < b)) (B x)
theorem oc_n {α : Type} {b : Nat} {A : Option α} {B : Nat → Option α} {r : Option α} (h : oc none b A B = r) : A = r := h
theorem oc_s {α : Type} {b x : Nat} {A : Option α} {B : Nat → Option α} {r : α} (h : oc (some x) b A B = some r) : x < b ∧ B x = some r := by
  obtain ⟨h1, h2⟩ := gd_e (show gd (decide (x < b)) (B x) = some r from h)
  exact ⟨of_decide_eq_true h1, h2⟩
theorem x_out {x : Int32} {N : Nat} (h : ∀ j : Nat, j ≤ N → ¬ x = Int32.ofNat j) : x.toInt < (0 : Int) ∨ (N : Int) < x.toInt := by
  by_cases h0 : x.toInt < 0
  · exact Or.inl h0
  · by_cases h1 : (N : Int) < x.toInt
    · exact Or.inr h1
    · exfalso
      have hn : ¬ x < 0 := fun q => h0 (by have := Int32.lt_iff_toInt_lt.mp q; simpa using this)
      obtain ⟨j, hj, rfl⟩ := nI_of hn
      have : (nI j).toInt = (j : Int) := nI_toInt hj
      exact h j (by omega) rfl
def ZM (_ : State) : Prop := True
theorem zkM : zk ZM := ⟨fun _ _ _ _ => trivial, fun _ _ _ _ _ => trivial⟩
/-- the one private row of the class that a nest mate calls -/
def ZC (U : State) : Prop := va_Nw (.methodLinkNest RX1 80 yX9_memberAt "CallBoard") U
theorem zkC : zk ZC := ⟨fun _ _ hW h => va_Nw.warmM hW h, fun _ _ _ _ h => va_Nw.same rfl rfl h⟩
theorem nw_80 {s : State} (h : ZC s) : va_Nw (.methodLinkNest RX1 80 yX9_memberAt "CallBoard") s := h
end
section
-- X10_isLaid
noncomputable def X10_isLaid (x1 : Int32) (x2 : Int32) (σ : PS) : Option (Int32) :=
  gd (ib x1 40) (if (gI σ 516 0 (ix x1)) = x2 then gd (ib x1 40) (if (gI σ 520 0 (ix x1)) = (1 : Int32) then some (1 : Int32) else some (0 : Int32)) else some (0 : Int32))
-- X10_laid
noncomputable def X10_laid_l4 (σ : PS) (kx4 : Int32 → Option (Int32)) : Nat → Int32 → Int32 → Int32 → Option (Int32)
  | 0, _, _, _ => none
  | n4 + 1, v1, v2, v3 =>
    if (gI σ 500 0 14) ≤ v3 then kx4 v2 else (X10_isLaid v3 v1 σ).bind (fun r1 => if r1 = 0 then nm (v2 + (0 : Int32)) (fun y2 => (X10_laid_l4 σ kx4 n4) v1 y2 (v3 + (1 : Int32))) else nm (v2 + (1 : Int32)) (fun y3 => (X10_laid_l4 σ kx4 n4) v1 y3 (v3 + (1 : Int32))))
noncomputable def X10_laid_c35 (σ : PS) (v2 : Int32) : Option (Int32) :=
  some v2
noncomputable def X10_laid (x1 : Int32) (σ : PS) : Option (Int32) :=
  X10_laid_l4 σ (fun v2 => X10_laid_c35 σ v2) fuel x1 (0 : Int32) (0 : Int32)
-- X10_isClass
noncomputable def X10_isClass (x0 : Int32) (σ : PS) : Option (Int32) :=
  if x0 < 0 then some (0 : Int32) else if (12 : Int32) ≤ x0 then some (0 : Int32) else some (1 : Int32)
-- X10_parent
noncomputable def X10_parent (x1 : Int32) (x2 : Int32) (σ : PS) : Option (Int32 × PS) :=
  (X10_isClass x1 σ).bind (fun r1 => if r1 = 0 then some ((-2 : Int32), σ) else if x2 = (-1 : Int32) then if (gI σ 500 0 4) = 0 then gd (ib x1 12) (nm (sI σ 501 0 (ix x1) x2) (fun σ3 => some ((1 : Int32), σ3))) else some ((-3 : Int32), σ) else (X10_isClass x2 σ).bind (fun r4 => if r4 = 0 then some ((-2 : Int32), σ) else if (gI σ 500 0 4) = 0 then gd (ib x1 12) (nm (sI σ 501 0 (ix x1) x2) (fun σ6 => some ((1 : Int32), σ6))) else some ((-3 : Int32), σ)))
-- X10_isHandler
noncomputable def X10_isHandler (x1 : Int32) (σ : PS) : Option (Int32) :=
  if x1 < 0 then some (0 : Int32) else if (gI σ 500 0 14) ≤ x1 then some (0 : Int32) else some (1 : Int32)
-- X10_about
noncomputable def X10_about_c52 (σ : PS) (v1 : Int32) (v2 : Int32) (v3 : Int32) (w0 : Int32) : Option (Int32) :=
  if v2 = (0 : Int32) then gd (ib v1 40) (some (gI σ 516 0 (ix v1))) else if v2 = (1 : Int32) then gd (ib v1 40) (some (gI σ 517 0 (ix v1))) else if v2 = (2 : Int32) then gd (ib v1 40) (some (gI σ 518 0 (ix v1))) else if v2 = (3 : Int32) then gd (ib v1 40) (if (gI σ 519 0 (ix v1)) = 0 then some (0 : Int32) else some (1 : Int32)) else if v2 = (4 : Int32) then gd (ib v1 40) (some (gI σ 520 0 (ix v1))) else if v2 = (5 : Int32) then if w0 = 0 then some (0 : Int32) else gd (ib (((2 : Int32) * v1) + v3) 80) (some (gI σ 521 0 (ix (((2 : Int32) * v1) + v3)))) else if v2 = (6 : Int32) then if w0 = 0 then some (0 : Int32) else gd (ib (((2 : Int32) * v1) + v3) 80) (some (gI σ 521 0 (ix (((2 : Int32) * v1) + v3)))) else if v2 = (7 : Int32) then if w0 = 0 then some (0 : Int32) else gd (ib (((2 : Int32) * v1) + v3) 80) (some (gI σ 522 0 (ix (((2 : Int32) * v1) + v3)))) else if v2 = (8 : Int32) then if w0 = 0 then some (0 : Int32) else gd (ib (((2 : Int32) * v1) + v3) 80) (some (gI σ 522 0 (ix (((2 : Int32) * v1) + v3)))) else if w0 = 0 then some (0 : Int32) else gd (ib (((2 : Int32) * v1) + v3) 80) (some (gI σ 523 0 (ix (((2 : Int32) * v1) + v3))))
noncomputable def X10_about_c47 (σ : PS) (v1 : Int32) (v2 : Int32) (v3 : Int32) : Option (Int32) :=
  X10_about_c52 σ  v1 v2 v3 (1 : Int32)
noncomputable def X10_about (x1 : Int32) (x2 : Int32) (σ : PS) : Option (Int32) :=
  (X10_isHandler x1 σ).bind (fun r1 => if r1 = 0 then some (-2 : Int32) else if x2 < 0 then some (-2 : Int32) else if x2 ≤ (10 : Int32) then nm ((x2 - (5 : Int32)) - (x2 - (5 : Int32)) / (2 : Int32) * (2 : Int32)) (fun y2 => if x2 < (5 : Int32) then X10_about_c47 σ  x1 x2 y2 else gd (ib x1 40) (gd (ib (gI σ 516 0 (ix x1)) 4) (if (gI σ 510 0 (ix (gI σ 516 0 (ix x1)))) ≤ y2 then X10_about_c52 σ  x1 x2 y2 (0 : Int32) else X10_about_c47 σ  x1 x2 y2))) else some (-2 : Int32))
-- X10_close
noncomputable def X10_close_l12  (kx12 : PS → Option (Int32 × PS)) : Nat → Int32 → PS → Option (Int32 × PS)
  | 0, _, _ => none
  | n12 + 1, v1, σ =>
    if (256 : Int32) ≤ v1 then kx12 σ else gd (ib v1 256) (gd (isB (gI σ 502 0 (ix v1))) (gd (ib v1 256) (nm (sI σ 503 0 (ix v1) (gI σ 502 0 (ix v1))) (fun σ4 => (X10_close_l12  kx12 n12) (v1 + (1 : Int32)) σ4))))
noncomputable def X10_close_l39  (kx39 : PS → Option (Int32 × PS)) : Nat → Int32 → PS → Option (Int32 × PS)
  | 0, _, _ => none
  | n39 + 1, v1, σ =>
    if (12 : Int32) ≤ v1 then kx39 σ else gd (ib v1 12) (if (gI σ 501 0 (ix v1)) < 0 then (X10_close_l39  kx39 n39) (v1 + (1 : Int32)) σ else gd (ib v1 12) (gd (ib (((16 : Int32) * v1) + (gI σ 501 0 (ix v1))) 256) (nm (sI σ 503 0 (ix (((16 : Int32) * v1) + (gI σ 501 0 (ix v1)))) (1 : Int32)) (fun σ8 => (X10_close_l39  kx39 n39) (v1 + (1 : Int32)) σ8))))
noncomputable def X10_close_l95  (kx95 : Int32 → Int32 → PS → Option (Int32 × PS)) : Nat → Int32 → Int32 → Int32 → PS → Option (Int32 × PS)
  | 0, _, _, _, _ => none
  | n95 + 1, v1, v2, v3, σ =>
    if (16 : Int32) ≤ v3 then kx95 v1 v2 σ else gd (ib (((16 : Int32) * v2) + v3) 256) (if (gI σ 503 0 (ix (((16 : Int32) * v2) + v3))) = 0 then gd (ib (((16 : Int32) * v2) + v1) 256) (if (gI σ 503 0 (ix (((16 : Int32) * v2) + v1))) = 0 then gd (ib (((16 : Int32) * v2) + v3) 256) (nm (sI σ 503 0 (ix (((16 : Int32) * v2) + v3)) (0 : Int32)) (fun σ14 => (X10_close_l95  kx95 n95) v1 v2 (v3 + (1 : Int32)) σ14)) else gd (ib (((16 : Int32) * v1) + v3) 256) (if (gI σ 503 0 (ix (((16 : Int32) * v1) + v3))) = 0 then gd (ib (((16 : Int32) * v2) + v3) 256) (nm (sI σ 503 0 (ix (((16 : Int32) * v2) + v3)) (0 : Int32)) (fun σ17 => (X10_close_l95  kx95 n95) v1 v2 (v3 + (1 : Int32)) σ17)) else gd (ib (((16 : Int32) * v2) + v3) 256) (nm (sI σ 503 0 (ix (((16 : Int32) * v2) + v3)) (1 : Int32)) (fun σ19 => (X10_close_l95  kx95 n95) v1 v2 (v3 + (1 : Int32)) σ19)))) else gd (ib (((16 : Int32) * v2) + v3) 256) (nm (sI σ 503 0 (ix (((16 : Int32) * v2) + v3)) (1 : Int32)) (fun σ11 => (X10_close_l95  kx95 n95) v1 v2 (v3 + (1 : Int32)) σ11)))
noncomputable def X10_close_c165  (kr87 : Int32 → Int32 → PS → Option (Int32 × PS)) (kx87 : Int32 → PS → Option (Int32 × PS)) (v1 : Int32) (v2 : Int32) (σ : PS) : Option (Int32 × PS) :=
  kr87 v1 (v2 + (1 : Int32)) σ
noncomputable def X10_close_l87  (kx87 : Int32 → PS → Option (Int32 × PS)) : Nat → Int32 → Int32 → PS → Option (Int32 × PS)
  | 0, _, _, _ => none
  | n87 + 1, v1, v2, σ =>
    if (16 : Int32) ≤ v2 then kx87 v1 σ else X10_close_l95  (fun v1 v2 σ => X10_close_c165  (X10_close_l87  kx87 n87) kx87 v1 v2 σ) fuel v1 v2 (0 : Int32) σ
noncomputable def X10_close_c171  (kr79 : Int32 → PS → Option (Int32 × PS)) (kx79 : PS → Option (Int32 × PS)) (v1 : Int32) (σ : PS) : Option (Int32 × PS) :=
  kr79 (v1 + (1 : Int32)) σ
noncomputable def X10_close_l79  (kx79 : PS → Option (Int32 × PS)) : Nat → Int32 → PS → Option (Int32 × PS)
  | 0, _, _ => none
  | n79 + 1, v1, σ =>
    if (16 : Int32) ≤ v1 then kx79 σ else X10_close_l87  (fun v1 σ => X10_close_c171  (X10_close_l79  kx79 n79) kx79 v1 σ) fuel v1 (0 : Int32) σ
noncomputable def X10_close_l179  (kx179 : PS → Option (Int32 × PS)) : Nat → Int32 → PS → Option (Int32 × PS)
  | 0, _, _ => none
  | n179 + 1, v1, σ =>
    if (16 : Int32) ≤ v1 then kx179 σ else gd (ib ((17 : Int32) * v1) 256) (if (gI σ 503 0 (ix ((17 : Int32) * v1))) = 0 then (X10_close_l179  kx179 n179) (v1 + (1 : Int32)) σ else some ((-5 : Int32), σ))
noncomputable def X10_close_l208  (kx208 : PS → Option (Int32 × PS)) : Nat → Int32 → PS → Option (Int32 × PS)
  | 0, _, _ => none
  | n208 + 1, v1, σ =>
    if (16 : Int32) ≤ v1 then kx208 σ else gd (ib ((17 : Int32) * v1) 256) (nm (sI σ 503 0 (ix ((17 : Int32) * v1)) (1 : Int32)) (fun σ22 => (X10_close_l208  kx208 n208) (v1 + (1 : Int32)) σ22))
noncomputable def X10_close_c230  (σ : PS) : Option (Int32 × PS) :=
  nm (sI σ 500 0 4 (1 : Int32)) (fun σ23 => some ((1 : Int32), σ23))
noncomputable def X10_close_c206  (σ : PS) : Option (Int32 × PS) :=
  X10_close_l208  (fun σ => X10_close_c230  σ) fuel (0 : Int32) σ
noncomputable def X10_close_c177  (σ : PS) : Option (Int32 × PS) :=
  X10_close_l179  (fun σ => X10_close_c206  σ) fuel (0 : Int32) σ
noncomputable def X10_close_c77  (σ : PS) : Option (Int32 × PS) :=
  X10_close_l79  (fun σ => X10_close_c177  σ) fuel (0 : Int32) σ
noncomputable def X10_close_c37  (σ : PS) : Option (Int32 × PS) :=
  X10_close_l39  (fun σ => X10_close_c77  σ) fuel (0 : Int32) σ
noncomputable def X10_close (σ : PS) : Option (Int32 × PS) :=
  if (gI σ 500 0 4) = 0 then X10_close_l12  (fun σ => X10_close_c37  σ) fuel (0 : Int32) σ else some ((-3 : Int32), σ)
theorem h9_X10_isLaid : yX10_isLaid.cls = RX10 ∧ yX10_isLaid.cls ≠ "java/lang/invoke/MethodHandle" ∧ yX10_isLaid.cls ≠ "java/lang/invoke/VarHandle" ∧ (parseMethodDescriptor yX10_isLaid.desc).map (fun d => d.parameters.length) = some 2 := by decide +kernel
set_option maxRecDepth 100000 in
set_option maxHeartbeats 4000000 in
theorem t_X10_isLaid (l : Launch) (G : va_G) (ad : Nat → Nat → Nat) (ca : Nat → ClassId) (A : Nat → Prop)   (x1 : Int32) (x2 : Int32) (hD : DW ad LM A)  (σ : PS) (res : Int32) (hf : X10_isLaid  x1 x2 σ = some res) : Met l yX10_isLaid wsX10_isLaid ({ frames := 0, cells := 0, slots := 0, locals := 0 }) (ctP G ad ca LM σ ZM [.ref (ad 500 0), .int x1, .int x2]) (va_Qi (fun r' u => r' = res ∧ u = σ) (ctB G ad ca LM) A) 0 0 A := by
  refine Met.ofW (cc := cX10_isLaid) (maxL := 3) (ret := (some .boolean)) (by decide) rfl ?_
  intro p e s m args below meth c s₁ B hml hv
  obtain ⟨rfl, hP, hK, hz⟩ := hv
  have hx := B.exec
  have hb := B.bytes
  have hr := B.returns
  have hts : ∀ w ∈ WW, w.before _ s = true := fun w h => atoms_spec (ws := wsX10_isLaid) B.pre w (List.mem_cons_of_mem _ h)
  have hown : s.vm.findClass RX10 = some m.cls := findClass_of_methodNamed B.named
  have hlocks := B.notSynchronized
  have hS : va_S A s.heap s.heap [] := va_S.rf
  have k_45 := hts _ kf_X10_45
  have k_57 := hts _ kf_X10_57
  have hl := lv_entry ([.ref (ad 500 0), .int x1, .int x2]) (n := 3) (Nat.le_of_ble_eq_true rfl)
  rw [lg_entry_eq]
  generalize (lg_sl ([.ref (ad 500 0), .int x1, .int x2]) ++ List.replicate (3 - (lg_sl ([.ref (ad 500 0), .int x1, .int x2])).length) Slot.unset).toArray = ls at hl ⊢
  have hl : lv_has ls 3 [(0, .ref (ad 500 0)), (1, .int x1), (2, .int x2)] := hl
  unfold X10_isLaid at hf
  refine lv_aload_n hx hb dX10_isLaid_0 rfl (lv_at hl 0 rfl) ?_
  refine x_get (k := 500) (n := 0) hx hb hts i_X10 hown hK hP (mk_500 h01) rfl rfl 15 (by decide) rfl k_45 (v := .ref (ad 516 0)) rfl dX10_isLaid_1 ?_
  refine lv_iload_n hx hb dX10_isLaid_4 rfl (lv_at hl 1 rfl) ?_
  obtain ⟨g1, hf⟩ := gd_e hf
  refine x_iald (k := 516) (n := 0) hx hb hK hP (mk_516 h01) rfl g1 dX10_isLaid_5 ?_
  refine lv_iload_n hx hb dX10_isLaid_6 rfl (lv_at hl 2 rfl) ?_
  refine lv_icmp_ne (tgt := 24) hx hb dX10_isLaid_7 rfl (fun hc => ?_) (fun hc => ?_)
  · have hf := b_n hf hc
    refine lv_iconst (v := (0 : Int32)) hx hb dX10_isLaid_24 rfl ?_
    exact x_zret hx hb hr hlocks hK hP hS (by decide) (Option.some.inj hf) rfl dX10_isLaid_25
  · have hf := b_p hf hc
    refine lv_aload_n hx hb dX10_isLaid_10 rfl (lv_at hl 0 rfl) ?_
    refine x_get (k := 500) (n := 0) hx hb hts i_X10 hown hK hP (mk_500 h01) rfl rfl 19 (by decide) rfl k_57 (v := .ref (ad 520 0)) rfl dX10_isLaid_11 ?_
    refine lv_iload_n hx hb dX10_isLaid_14 rfl (lv_at hl 1 rfl) ?_
    obtain ⟨g2, hf⟩ := gd_e hf
    refine x_iald (k := 520) (n := 0) hx hb hK hP (mk_520 h01) rfl g2 dX10_isLaid_15 ?_
    refine lv_iconst (v := (1 : Int32)) hx hb dX10_isLaid_16 rfl ?_
    refine lv_icmp_ne (tgt := 24) hx hb dX10_isLaid_17 rfl (fun hc => ?_) (fun hc => ?_)
    · have hf := b_n hf hc
      refine lv_iconst (v := (0 : Int32)) hx hb dX10_isLaid_24 rfl ?_
      exact x_zret hx hb hr hlocks hK hP hS (by decide) (Option.some.inj hf) rfl dX10_isLaid_25
    · have hf := b_p hf hc
      refine lv_iconst (v := (1 : Int32)) hx hb dX10_isLaid_20 rfl ?_
      refine lv_goto (tgt := 25) hx hb dX10_isLaid_21 rfl ?_
      exact x_zret hx hb hr hlocks hK hP hS (by decide) (Option.some.inj hf) rfl dX10_isLaid_25
theorem h9_X10_laid : yX10_laid.cls = RX10 ∧ yX10_laid.cls ≠ "java/lang/invoke/MethodHandle" ∧ yX10_laid.cls ≠ "java/lang/invoke/VarHandle" ∧ (parseMethodDescriptor yX10_laid.desc).map (fun d => d.parameters.length) = some 1 := by decide +kernel
set_option maxRecDepth 100000 in
set_option maxHeartbeats 4000000 in
theorem t_X10_laid (l : Launch) (G : va_G) (ad : Nat → Nat → Nat) (ca : Nat → ClassId) (A : Nat → Prop)   (x1 : Int32) (hD : DW ad LM A)  (σ : PS) (res : Int32) (hf : X10_laid  x1 σ = some res) : Met l yX10_laid wsX10_laid ({ frames := 1, cells := 0, slots := 0, locals := 22 }) (ctP G ad ca LM σ ZM [.ref (ad 500 0), .int x1]) (va_Qi (fun r' u => r' = res ∧ u = σ) (ctB G ad ca LM) A) 0 0 A := by
  refine Met.ofW (cc := cX10_laid) (maxL := 4) (ret := (some .int)) (by decide) rfl ?_
  intro p e s m args below meth c s₁ B hml hv
  obtain ⟨rfl, hP, hK, hz⟩ := hv
  have hx := B.exec
  have hb := B.bytes
  have hr := B.returns
  have hts : ∀ w ∈ WW, w.before _ s = true := fun w h => atoms_spec (ws := wsX10_laid) B.pre w (List.mem_cons_of_mem _ h)
  have hown : s.vm.findClass RX10 = some m.cls := findClass_of_methodNamed B.named
  have hlocks := B.notSynchronized
  have hS : va_S A s.heap s.heap [] := va_S.rf
  have k_131 := hts _ kf_X10_131
  have hl := lv_entry ([.ref (ad 500 0), .int x1]) (n := 4) (Nat.le_of_ble_eq_true rfl)
  rw [lg_entry_eq]
  generalize (lg_sl ([.ref (ad 500 0), .int x1]) ++ List.replicate (4 - (lg_sl ([.ref (ad 500 0), .int x1])).length) Slot.unset).toArray = ls at hl ⊢
  have hl : lv_has ls 4 [(0, .ref (ad 500 0)), (1, .int x1)] := hl
  unfold X10_laid at hf
  have l4 : ∀ (kx4 : Int32 → Option (Int32)), (∀ (v2 : Int32) (H : Heap) (locs : List Loc) (ls : Array Slot), kx4 v2 = some res → lv_has ls 4 [(2, .int v2)] → va_P G vwCl (wld ad ca σ LM) H → va_S A s.heap H locs → W p l e (headSpec wsX10_laid ({ frames := 1, cells := 0, slots := 0, locals := 22 })).room s m (([.ref (ad 500 0), .int x1] : List Value).toArray) below meth c H locs 0 0 (MQ below (va_Qi (fun r' u => r' = res ∧ u = σ) (ctB G ad ca LM) A) (([.ref (ad 500 0), .int x1] : List Value).toArray) s 0 0 A) (F0 m 35 ls [])) → ∀ (n4 : Nat) (v1 : Int32) (v2 : Int32) (v3 : Int32) (H : Heap) (locs : List Loc) (ls : Array Slot), X10_laid_l4 σ kx4 n4 v1 v2 v3 = some res → lv_has ls 4 [(0, .ref (ad 500 0)), (1, .int v1), (2, .int v2), (3, .int v3)] → va_P G vwCl (wld ad ca σ LM) H → va_S A s.heap H locs → W p l e (headSpec wsX10_laid ({ frames := 1, cells := 0, slots := 0, locals := 22 })).room s m (([.ref (ad 500 0), .int x1] : List Value).toArray) below meth c H locs 0 0 (MQ below (va_Qi (fun r' u => r' = res ∧ u = σ) (ctB G ad ca LM) A) (([.ref (ad 500 0), .int x1] : List Value).toArray) s 0 0 A) (F0 m 4 ls []) := by
    intro kx4 hx4 n4
    induction n4 with
    | zero =>
      intro v1 v2 v3 H locs ls hf
      exact absurd hf (by simp [X10_laid_l4])
    | succ n4 ih4 =>
      intro v1 v2 v3 H locs ls hf hl hP hS
      rw [X10_laid_l4.eq_2] at hf
      refine lv_iload_n hx hb dX10_laid_4 rfl (lv_at hl 3 rfl) ?_
      refine lv_aload_n hx hb dX10_laid_5 rfl (lv_at hl 0 rfl) ?_
      refine x_get (k := 500) (n := 0) hx hb hts i_X10 hown hK hP (mk_500 h01) rfl rfl 14 (by decide) rfl k_131 (v := .int (gI σ 500 0 14)) rfl dX10_laid_6 ?_
      refine lv_icmp_ge (tgt := 35) hx hb dX10_laid_9 rfl (fun hc => ?_) (fun hc => ?_)
      · have hf := b_p hf hc
        exact hx4 v2 _ _ _  hf (lv_sub hl [2] rfl) hP hS
      · have hf := b_n hf hc
        refine lv_iload_n hx hb dX10_laid_12 rfl (lv_at hl 2 rfl) ?_
        refine lv_aload_n hx hb dX10_laid_13 rfl (lv_at hl 0 rfl) ?_
        refine lv_iload_n hx hb dX10_laid_14 rfl (lv_at hl 3 rfl) ?_
        refine lv_iload_n hx hb dX10_laid_15 rfl (lv_at hl 1 rfl) ?_
        obtain ⟨r1, hc1, hf⟩ := bd_e hf
        refine x_ci (va_runV (As := [.int v3, .int v1]) (rest := [.int v2]) ⟨hx, hb, hml, hown, hts⟩ (t_X10_isLaid l G ad ca A v3 v1 hD  σ r1 hc1) (cwV 2 hts gr_X10_145 rfl rfl rfl h9_X10_isLaid ⟨Nat.le_of_ble_eq_true rfl, Nat.le_of_ble_eq_true rfl⟩) (x_prV zkM hz hK hP (mk_500 h01) rfl rfl) rfl rfl hl.1 rfl (lv_room (Nat.le_of_ble_eq_true rfl)) dX10_laid_16 ⟨Nat.le_of_ble_eq_true rfl, Nat.le_of_ble_eq_true rfl⟩) hS (fun H locs hP hS => ?_)
        refine lv_if_eq (tgt := 26) hx hb dX10_laid_19 rfl (fun hc => ?_) (fun hc => ?_)
        · have hf := b_p hf hc
          refine lv_iconst (v := (0 : Int32)) hx hb dX10_laid_26 rfl ?_
          refine lv_iadd hx hb dX10_laid_27 ?_
          obtain ⟨y2, e_y2, hf⟩ := nm_i hf
          refine x_nmI e_y2 ?_
          refine lv_istore_n (lv' := [(2, .int y2), (0, .ref (ad 500 0)), (1, .int v1), (3, .int v3)]) hx hb dX10_laid_28 rfl hl (by decide) rfl (fun ls hl => ?_)
          refine lv_iinc (v := (v3 + (1 : Int32))) (lv' := [(3, .int (v3 + (1 : Int32))), (2, .int y2), (0, .ref (ad 500 0)), (1, .int v1)]) hx hb dX10_laid_29 hl (k := 3) rfl rfl (by decide) rfl (fun ls hl => ?_)
          refine lv_goto (tgt := 4) hx hb dX10_laid_32 rfl ?_
          exact ih4 v1 y2 (v3 + (1 : Int32)) _ _ _  hf (lv_sub hl [2, 3, 1, 0] rfl) hP hS
        · have hf := b_n hf hc
          refine lv_iconst (v := (1 : Int32)) hx hb dX10_laid_22 rfl ?_
          refine lv_goto (tgt := 27) hx hb dX10_laid_23 rfl ?_
          refine lv_iadd hx hb dX10_laid_27 ?_
          obtain ⟨y3, e_y3, hf⟩ := nm_i hf
          refine x_nmI e_y3 ?_
          refine lv_istore_n (lv' := [(2, .int y3), (0, .ref (ad 500 0)), (1, .int v1), (3, .int v3)]) hx hb dX10_laid_28 rfl hl (by decide) rfl (fun ls hl => ?_)
          refine lv_iinc (v := (v3 + (1 : Int32))) (lv' := [(3, .int (v3 + (1 : Int32))), (2, .int y3), (0, .ref (ad 500 0)), (1, .int v1)]) hx hb dX10_laid_29 hl (k := 3) rfl rfl (by decide) rfl (fun ls hl => ?_)
          refine lv_goto (tgt := 4) hx hb dX10_laid_32 rfl ?_
          exact ih4 v1 y3 (v3 + (1 : Int32)) _ _ _  hf (lv_sub hl [2, 3, 1, 0] rfl) hP hS
  have c35 : ∀ (v2 : Int32) (H : Heap) (locs : List Loc) (ls : Array Slot), X10_laid_c35 σ v2 = some res → lv_has ls 4 [(2, .int v2)] → va_P G vwCl (wld ad ca σ LM) H → va_S A s.heap H locs → W p l e (headSpec wsX10_laid ({ frames := 1, cells := 0, slots := 0, locals := 22 })).room s m (([.ref (ad 500 0), .int x1] : List Value).toArray) below meth c H locs 0 0 (MQ below (va_Qi (fun r' u => r' = res ∧ u = σ) (ctB G ad ca LM) A) (([.ref (ad 500 0), .int x1] : List Value).toArray) s 0 0 A) (F0 m 35 ls []) := by
    intro v2 H locs ls hf hl hP hS
    unfold X10_laid_c35 at hf
    refine lv_iload_n hx hb dX10_laid_35 rfl (lv_at hl 0 rfl) ?_
    exact x_iret hx hb hr hlocks hK hP hS (Option.some.inj hf) rfl dX10_laid_36
  refine lv_iconst (v := (0 : Int32)) hx hb dX10_laid_0 rfl ?_
  refine lv_istore_n (lv' := [(2, .int (0 : Int32)), (0, .ref (ad 500 0)), (1, .int x1)]) hx hb dX10_laid_1 rfl hl (by decide) rfl (fun ls hl => ?_)
  refine lv_iconst (v := (0 : Int32)) hx hb dX10_laid_2 rfl ?_
  refine lv_istore_n (lv' := [(3, .int (0 : Int32)), (2, .int (0 : Int32)), (0, .ref (ad 500 0)), (1, .int x1)]) hx hb dX10_laid_3 rfl hl (by decide) rfl (fun ls hl => ?_)
  exact l4 _ c35 _ x1 (0 : Int32) (0 : Int32) _ _ _  hf (lv_sub hl [2, 3, 1, 0] rfl) hP hS
theorem h9_X10_isClass : yX10_isClass.cls ≠ "java/lang/invoke/MethodHandle" ∧ yX10_isClass.cls ≠ "java/lang/invoke/VarHandle" ∧ (parseMethodDescriptor yX10_isClass.desc).map (fun d => d.parameters.length) = some 1 := by decide +kernel
set_option maxRecDepth 100000 in
set_option maxHeartbeats 4000000 in
theorem t_X10_isClass (l : Launch) (G : va_G) (ad : Nat → Nat → Nat) (ca : Nat → ClassId) (A : Nat → Prop)   (x0 : Int32) (hD : DW ad LM A)  (σ : PS) (res : Int32) (hf : X10_isClass  x0 σ = some res) : Met l yX10_isClass wsX10_isClass ({ frames := 0, cells := 0, slots := 0, locals := 0 }) (ctP G ad ca LM σ ZM [.int x0]) (va_Qi (fun r' u => r' = res ∧ u = σ) (ctB G ad ca LM) A) 0 0 A := by
  refine Met.ofW (cc := cX10_isClass) (maxL := 1) (ret := (some .boolean)) (by decide) rfl ?_
  intro p e s m args below meth c s₁ B hml hv
  obtain ⟨rfl, hP, hK, hz⟩ := hv
  have hx := B.exec
  have hb := B.bytes
  have hr := B.returns
  have hts : ∀ w ∈ WW, w.before _ s = true := fun w h => atoms_spec (ws := wsX10_isClass) B.pre w (List.mem_cons_of_mem _ h)
  have hown : s.vm.findClass RX10 = some m.cls := findClass_of_methodNamed B.named
  have hlocks := B.notSynchronized
  have hS : va_S A s.heap s.heap [] := va_S.rf
  have hl := lv_entry ([.int x0]) (n := 1) (Nat.le_of_ble_eq_true rfl)
  rw [lg_entry_eq]
  generalize (lg_sl ([.int x0]) ++ List.replicate (1 - (lg_sl ([.int x0])).length) Slot.unset).toArray = ls at hl ⊢
  have hl : lv_has ls 1 [(0, .int x0)] := hl
  unfold X10_isClass at hf
  refine lv_iload_n hx hb dX10_isClass_0 rfl (lv_at hl 0 rfl) ?_
  refine lv_if_lt (tgt := 14) hx hb dX10_isClass_1 rfl (fun hc => ?_) (fun hc => ?_)
  · have hf := b_p hf hc
    refine lv_iconst (v := (0 : Int32)) hx hb dX10_isClass_14 rfl ?_
    exact x_zret hx hb hr hlocks hK hP hS (by decide) (Option.some.inj hf) rfl dX10_isClass_15
  · have hf := b_n hf hc
    refine lv_iload_n hx hb dX10_isClass_4 rfl (lv_at hl 0 rfl) ?_
    refine lv_bipush (v := (12 : Int32)) hx hb dX10_isClass_5 rfl ?_
    refine lv_icmp_ge (tgt := 14) hx hb dX10_isClass_7 rfl (fun hc => ?_) (fun hc => ?_)
    · have hf := b_p hf hc
      refine lv_iconst (v := (0 : Int32)) hx hb dX10_isClass_14 rfl ?_
      exact x_zret hx hb hr hlocks hK hP hS (by decide) (Option.some.inj hf) rfl dX10_isClass_15
    · have hf := b_n hf hc
      refine lv_iconst (v := (1 : Int32)) hx hb dX10_isClass_10 rfl ?_
      refine lv_goto (tgt := 15) hx hb dX10_isClass_11 rfl ?_
      exact x_zret hx hb hr hlocks hK hP hS (by decide) (Option.some.inj hf) rfl dX10_isClass_15
theorem h9_X10_parent : yX10_parent.cls = RX10 ∧ yX10_parent.cls ≠ "java/lang/invoke/MethodHandle" ∧ yX10_parent.cls ≠ "java/lang/invoke/VarHandle" ∧ (parseMethodDescriptor yX10_parent.desc).map (fun d => d.parameters.length) = some 2 := by decide +kernel
set_option maxRecDepth 100000 in
set_option maxHeartbeats 4000000 in
theorem t_X10_parent (l : Launch) (G : va_G) (ad : Nat → Nat → Nat) (ca : Nat → ClassId) (A : Nat → Prop)   (x1 : Int32) (x2 : Int32) (hD : DW ad LM A)  (σ : PS) (res : Int32) (σz : PS) (hf : X10_parent  x1 x2 σ = some (res, σz)) : Met l yX10_parent wsX10_parent ({ frames := 1, cells := 0, slots := 0, locals := 20 }) (ctP G ad ca LM σ ZM [.ref (ad 500 0), .int x1, .int x2]) (va_Qi (fun r' u => r' = res ∧ u = σz) (ctB G ad ca LM) A) 0 0 A := by
  refine Met.ofW (cc := cX10_parent) (maxL := 3) (ret := (some .int)) (by decide) rfl ?_
  intro p e s m args below meth c s₁ B hml hv
  obtain ⟨rfl, hP, hK, hz⟩ := hv
  have hx := B.exec
  have hb := B.bytes
  have hr := B.returns
  have hts : ∀ w ∈ WW, w.before _ s = true := fun w h => atoms_spec (ws := wsX10_parent) B.pre w (List.mem_cons_of_mem _ h)
  have hown : s.vm.findClass RX10 = some m.cls := findClass_of_methodNamed B.named
  have hlocks := B.notSynchronized
  have hS : va_S A s.heap s.heap [] := va_S.rf
  have k_7 := hts _ kf_X10_7
  have k_110 := hts _ kf_X10_110
  have hl := lv_entry ([.ref (ad 500 0), .int x1, .int x2]) (n := 3) (Nat.le_of_ble_eq_true rfl)
  rw [lg_entry_eq]
  generalize (lg_sl ([.ref (ad 500 0), .int x1, .int x2]) ++ List.replicate (3 - (lg_sl ([.ref (ad 500 0), .int x1, .int x2])).length) Slot.unset).toArray = ls at hl ⊢
  have hl : lv_has ls 3 [(0, .ref (ad 500 0)), (1, .int x1), (2, .int x2)] := hl
  unfold X10_parent at hf
  refine lv_iload_n hx hb dX10_parent_0 rfl (lv_at hl 1 rfl) ?_
  obtain ⟨r1, hc1, hf⟩ := bd_e hf
  refine x_ci (va_runS (As := [.int x1]) (rest := []) ⟨hx, hb, hml, hown, hts⟩ (t_X10_isClass l G ad ca A x1 hD  σ r1 hc1) (va_cwS 1 hts gr_X10_106 rfl rfl rfl h9_X10_isClass ⟨Nat.le_of_ble_eq_true rfl, Nat.le_of_ble_eq_true rfl⟩) (x_prS zkM hz hK hP) rfl rfl hl.1 rfl (lv_room (Nat.le_of_ble_eq_true rfl)) dX10_parent_1 ⟨Nat.le_of_ble_eq_true rfl, Nat.le_of_ble_eq_true rfl⟩) hS (fun H locs hP hS => ?_)
  refine lv_if_eq (tgt := 19) hx hb dX10_parent_4 rfl (fun hc => ?_) (fun hc => ?_)
  · have hf := b_p hf hc
    refine lv_bipush (v := (-2 : Int32)) hx hb dX10_parent_19 rfl ?_
    have hf := Option.some.inj hf
    exact x_iret hx hb hr hlocks hK hP hS (congrArg Prod.fst hf) (congrArg Prod.snd hf) dX10_parent_21
  · have hf := b_n hf hc
    refine lv_iload_n hx hb dX10_parent_7 rfl (lv_at hl 2 rfl) ?_
    refine lv_iconst (v := (-1 : Int32)) hx hb dX10_parent_8 rfl ?_
    refine lv_icmp_eq (tgt := 22) hx hb dX10_parent_9 rfl (fun hc => ?_) (fun hc => ?_)
    · have hf := b_p hf hc
      refine lv_aload_n hx hb dX10_parent_22 rfl (lv_at hl 0 rfl) ?_
      refine x_get (k := 500) (n := 0) hx hb hts i_X10 hown hK hP (mk_500 h01) rfl rfl 4 (by decide) rfl k_110 (v := .int (gI σ 500 0 4)) rfl dX10_parent_23 ?_
      refine lv_if_eq (tgt := 32) hx hb dX10_parent_26 rfl (fun hc => ?_) (fun hc => ?_)
      · have hf := b_p hf hc
        refine lv_aload_n hx hb dX10_parent_32 rfl (lv_at hl 0 rfl) ?_
        refine x_get (k := 500) (n := 0) hx hb hts i_X10 hown hK hP (mk_500 h01) rfl rfl 0 (by decide) rfl k_7 (v := .ref (ad 501 0)) rfl dX10_parent_33 ?_
        refine lv_iload_n hx hb dX10_parent_36 rfl (lv_at hl 1 rfl) ?_
        refine lv_iload_n hx hb dX10_parent_37 rfl (lv_at hl 2 rfl) ?_
        obtain ⟨g2, hf⟩ := gd_e hf
        refine x_iast (k := 501) (n := 0) hx hb hK hD hP hS (mk_501 h01) rfl g2 dX10_parent_38 (fun H locs hP hS => ?_)
        obtain ⟨σ3, e_σ3, hf⟩ := nm_i hf
        have hP : va_P G vwCl (wld ad ca σ3 LM) H := by rw [e_σ3]; exact hP
        refine lv_iconst (v := (1 : Int32)) hx hb dX10_parent_39 rfl ?_
        have hf := Option.some.inj hf
        exact x_iret hx hb hr hlocks hK hP hS (congrArg Prod.fst hf) (congrArg Prod.snd hf) dX10_parent_40
      · have hf := b_n hf hc
        refine lv_bipush (v := (-3 : Int32)) hx hb dX10_parent_29 rfl ?_
        have hf := Option.some.inj hf
        exact x_iret hx hb hr hlocks hK hP hS (congrArg Prod.fst hf) (congrArg Prod.snd hf) dX10_parent_31
    · have hf := b_n hf hc
      refine lv_iload_n hx hb dX10_parent_12 rfl (lv_at hl 2 rfl) ?_
      obtain ⟨r4, hc4, hf⟩ := bd_e hf
      refine x_ci (va_runS (As := [.int x2]) (rest := []) ⟨hx, hb, hml, hown, hts⟩ (t_X10_isClass l G ad ca A x2 hD  σ r4 hc4) (va_cwS 1 hts gr_X10_106 rfl rfl rfl h9_X10_isClass ⟨Nat.le_of_ble_eq_true rfl, Nat.le_of_ble_eq_true rfl⟩) (x_prS zkM hz hK hP) rfl rfl hl.1 rfl (lv_room (Nat.le_of_ble_eq_true rfl)) dX10_parent_13 ⟨Nat.le_of_ble_eq_true rfl, Nat.le_of_ble_eq_true rfl⟩) hS (fun H locs hP hS => ?_)
      refine lv_if_ne (tgt := 22) hx hb dX10_parent_16 rfl (fun hc => ?_) (fun hc => ?_)
      · have hf := b_n hf hc
        refine lv_aload_n hx hb dX10_parent_22 rfl (lv_at hl 0 rfl) ?_
        refine x_get (k := 500) (n := 0) hx hb hts i_X10 hown hK hP (mk_500 h01) rfl rfl 4 (by decide) rfl k_110 (v := .int (gI σ 500 0 4)) rfl dX10_parent_23 ?_
        refine lv_if_eq (tgt := 32) hx hb dX10_parent_26 rfl (fun hc => ?_) (fun hc => ?_)
        · have hf := b_p hf hc
          refine lv_aload_n hx hb dX10_parent_32 rfl (lv_at hl 0 rfl) ?_
          refine x_get (k := 500) (n := 0) hx hb hts i_X10 hown hK hP (mk_500 h01) rfl rfl 0 (by decide) rfl k_7 (v := .ref (ad 501 0)) rfl dX10_parent_33 ?_
          refine lv_iload_n hx hb dX10_parent_36 rfl (lv_at hl 1 rfl) ?_
          refine lv_iload_n hx hb dX10_parent_37 rfl (lv_at hl 2 rfl) ?_
          obtain ⟨g5, hf⟩ := gd_e hf
          refine x_iast (k := 501) (n := 0) hx hb hK hD hP hS (mk_501 h01) rfl g5 dX10_parent_38 (fun H locs hP hS => ?_)
          obtain ⟨σ6, e_σ6, hf⟩ := nm_i hf
          have hP : va_P G vwCl (wld ad ca σ6 LM) H := by rw [e_σ6]; exact hP
          refine lv_iconst (v := (1 : Int32)) hx hb dX10_parent_39 rfl ?_
          have hf := Option.some.inj hf
          exact x_iret hx hb hr hlocks hK hP hS (congrArg Prod.fst hf) (congrArg Prod.snd hf) dX10_parent_40
        · have hf := b_n hf hc
          refine lv_bipush (v := (-3 : Int32)) hx hb dX10_parent_29 rfl ?_
          have hf := Option.some.inj hf
          exact x_iret hx hb hr hlocks hK hP hS (congrArg Prod.fst hf) (congrArg Prod.snd hf) dX10_parent_31
      · have hf := b_p hf hc
        refine lv_bipush (v := (-2 : Int32)) hx hb dX10_parent_19 rfl ?_
        have hf := Option.some.inj hf
        exact x_iret hx hb hr hlocks hK hP hS (congrArg Prod.fst hf) (congrArg Prod.snd hf) dX10_parent_21
theorem h9_X10_isHandler : yX10_isHandler.cls = RX10 ∧ yX10_isHandler.cls ≠ "java/lang/invoke/MethodHandle" ∧ yX10_isHandler.cls ≠ "java/lang/invoke/VarHandle" ∧ (parseMethodDescriptor yX10_isHandler.desc).map (fun d => d.parameters.length) = some 1 := by decide +kernel
set_option maxRecDepth 100000 in
set_option maxHeartbeats 4000000 in
theorem t_X10_isHandler (l : Launch) (G : va_G) (ad : Nat → Nat → Nat) (ca : Nat → ClassId) (A : Nat → Prop)   (x1 : Int32) (hD : DW ad LM A)  (σ : PS) (res : Int32) (hf : X10_isHandler  x1 σ = some res) : Met l yX10_isHandler wsX10_isHandler ({ frames := 0, cells := 0, slots := 0, locals := 0 }) (ctP G ad ca LM σ ZM [.ref (ad 500 0), .int x1]) (va_Qi (fun r' u => r' = res ∧ u = σ) (ctB G ad ca LM) A) 0 0 A := by
  refine Met.ofW (cc := cX10_isHandler) (maxL := 2) (ret := (some .boolean)) (by decide) rfl ?_
  intro p e s m args below meth c s₁ B hml hv
  obtain ⟨rfl, hP, hK, hz⟩ := hv
  have hx := B.exec
  have hb := B.bytes
  have hr := B.returns
  have hts : ∀ w ∈ WW, w.before _ s = true := fun w h => atoms_spec (ws := wsX10_isHandler) B.pre w (List.mem_cons_of_mem _ h)
  have hown : s.vm.findClass RX10 = some m.cls := findClass_of_methodNamed B.named
  have hlocks := B.notSynchronized
  have hS : va_S A s.heap s.heap [] := va_S.rf
  have k_131 := hts _ kf_X10_131
  have hl := lv_entry ([.ref (ad 500 0), .int x1]) (n := 2) (Nat.le_of_ble_eq_true rfl)
  rw [lg_entry_eq]
  generalize (lg_sl ([.ref (ad 500 0), .int x1]) ++ List.replicate (2 - (lg_sl ([.ref (ad 500 0), .int x1])).length) Slot.unset).toArray = ls at hl ⊢
  have hl : lv_has ls 2 [(0, .ref (ad 500 0)), (1, .int x1)] := hl
  unfold X10_isHandler at hf
  refine lv_iload_n hx hb dX10_isHandler_0 rfl (lv_at hl 1 rfl) ?_
  refine lv_if_lt (tgt := 16) hx hb dX10_isHandler_1 rfl (fun hc => ?_) (fun hc => ?_)
  · have hf := b_p hf hc
    refine lv_iconst (v := (0 : Int32)) hx hb dX10_isHandler_16 rfl ?_
    exact x_zret hx hb hr hlocks hK hP hS (by decide) (Option.some.inj hf) rfl dX10_isHandler_17
  · have hf := b_n hf hc
    refine lv_iload_n hx hb dX10_isHandler_4 rfl (lv_at hl 1 rfl) ?_
    refine lv_aload_n hx hb dX10_isHandler_5 rfl (lv_at hl 0 rfl) ?_
    refine x_get (k := 500) (n := 0) hx hb hts i_X10 hown hK hP (mk_500 h01) rfl rfl 14 (by decide) rfl k_131 (v := .int (gI σ 500 0 14)) rfl dX10_isHandler_6 ?_
    refine lv_icmp_ge (tgt := 16) hx hb dX10_isHandler_9 rfl (fun hc => ?_) (fun hc => ?_)
    · have hf := b_p hf hc
      refine lv_iconst (v := (0 : Int32)) hx hb dX10_isHandler_16 rfl ?_
      exact x_zret hx hb hr hlocks hK hP hS (by decide) (Option.some.inj hf) rfl dX10_isHandler_17
    · have hf := b_n hf hc
      refine lv_iconst (v := (1 : Int32)) hx hb dX10_isHandler_12 rfl ?_
      refine lv_goto (tgt := 17) hx hb dX10_isHandler_13 rfl ?_
      exact x_zret hx hb hr hlocks hK hP hS (by decide) (Option.some.inj hf) rfl dX10_isHandler_17
theorem h9_X10_about : yX10_about.cls = RX10 ∧ yX10_about.cls ≠ "java/lang/invoke/MethodHandle" ∧ yX10_about.cls ≠ "java/lang/invoke/VarHandle" ∧ (parseMethodDescriptor yX10_about.desc).map (fun d => d.parameters.length) = some 2 := by decide +kernel
set_option maxRecDepth 100000 in
set_option maxHeartbeats 4000000 in
theorem t_X10_about (l : Launch) (G : va_G) (ad : Nat → Nat → Nat) (ca : Nat → ClassId) (A : Nat → Prop)   (x1 : Int32) (x2 : Int32) (hD : DW ad LM A)  (σ : PS) (res : Int32) (hf : X10_about  x1 x2 σ = some res) : Met l yX10_about wsX10_about ({ frames := 1, cells := 0, slots := 0, locals := 21 }) (ctP G ad ca LM σ ZM [.ref (ad 500 0), .int x1, .int x2]) (va_Qi (fun r' u => r' = res ∧ u = σ) (ctB G ad ca LM) A) 0 0 A := by
  refine Met.ofW (cc := cX10_about) (maxL := 5) (ret := (some .int)) (by decide) rfl ?_
  intro p e s m args below meth c s₁ B hml hv
  obtain ⟨rfl, hP, hK, hz⟩ := hv
  have hx := B.exec
  have hb := B.bytes
  have hr := B.returns
  have hts : ∀ w ∈ WW, w.before _ s = true := fun w h => atoms_spec (ws := wsX10_about) B.pre w (List.mem_cons_of_mem _ h)
  have hown : s.vm.findClass RX10 = some m.cls := findClass_of_methodNamed B.named
  have hlocks := B.notSynchronized
  have hS : va_S A s.heap s.heap [] := va_S.rf
  have k_29 := hts _ kf_X10_29
  have k_45 := hts _ kf_X10_45
  have k_48 := hts _ kf_X10_48
  have k_51 := hts _ kf_X10_51
  have k_54 := hts _ kf_X10_54
  have k_57 := hts _ kf_X10_57
  have k_60 := hts _ kf_X10_60
  have k_63 := hts _ kf_X10_63
  have k_66 := hts _ kf_X10_66
  have hl := lv_entry ([.ref (ad 500 0), .int x1, .int x2]) (n := 5) (Nat.le_of_ble_eq_true rfl)
  rw [lg_entry_eq]
  generalize (lg_sl ([.ref (ad 500 0), .int x1, .int x2]) ++ List.replicate (5 - (lg_sl ([.ref (ad 500 0), .int x1, .int x2])).length) Slot.unset).toArray = ls at hl ⊢
  have hl : lv_has ls 5 [(0, .ref (ad 500 0)), (1, .int x1), (2, .int x2)] := hl
  unfold X10_about at hf
  have c52 : ∀ (v1 : Int32) (v2 : Int32) (v3 : Int32) (w0 : Int32) (H : Heap) (locs : List Loc) (ls : Array Slot), X10_about_c52 σ v1 v2 v3 w0 = some res → lv_has ls 5 [(0, .ref (ad 500 0)), (1, .int v1), (2, .int v2), (3, .int v3)] → va_P G vwCl (wld ad ca σ LM) H → va_S A s.heap H locs → W p l e (headSpec wsX10_about ({ frames := 1, cells := 0, slots := 0, locals := 21 })).room s m (([.ref (ad 500 0), .int x1, .int x2] : List Value).toArray) below meth c H locs 0 0 (MQ below (va_Qi (fun r' u => r' = res ∧ u = σ) (ctB G ad ca LM) A) (([.ref (ad 500 0), .int x1, .int x2] : List Value).toArray) s 0 0 A) (F0 m 52 ls [.int w0]) := by
    intro v1 v2 v3 w0 H locs ls hf hl hP hS
    unfold X10_about_c52 at hf
    refine lv_istore (lv' := [(4, .int w0), (0, .ref (ad 500 0)), (1, .int v1), (2, .int v2), (3, .int v3)]) hx hb dX10_about_52 hl (by decide) rfl (fun ls hl => ?_)
    refine lv_iload_n hx hb dX10_about_54 rfl (lv_at hl 3 rfl) ?_
    by_cases hc0 : v2 = (0 : Int32)
    · have hf := b_p hf hc0
      refine lv_tableIn (off := 49) (tgt := 104) hx hb dX10_about_55 (by rw [hc0]; decide) (by rw [hc0]; decide) (by rw [hc0]; rfl) rfl ?_
      refine lv_aload_n hx hb dX10_about_104 rfl (lv_at hl 1 rfl) ?_
      refine x_get (k := 500) (n := 0) hx hb hts i_X10 hown hK hP (mk_500 h01) rfl rfl 15 (by decide) rfl k_45 (v := .ref (ad 516 0)) rfl dX10_about_105 ?_
      refine lv_iload_n hx hb dX10_about_108 rfl (lv_at hl 2 rfl) ?_
      obtain ⟨g3, hf⟩ := gd_e hf
      refine x_iald (k := 516) (n := 0) hx hb hK hP (mk_516 h01) rfl g3 dX10_about_109 ?_
      exact x_iret hx hb hr hlocks hK hP hS (Option.some.inj hf) rfl dX10_about_110
    have hf := b_n hf hc0
    by_cases hc1 : v2 = (1 : Int32)
    · have hf := b_p hf hc1
      refine lv_tableIn (off := 56) (tgt := 111) hx hb dX10_about_55 (by rw [hc1]; decide) (by rw [hc1]; decide) (by rw [hc1]; rfl) rfl ?_
      refine lv_aload_n hx hb dX10_about_111 rfl (lv_at hl 1 rfl) ?_
      refine x_get (k := 500) (n := 0) hx hb hts i_X10 hown hK hP (mk_500 h01) rfl rfl 16 (by decide) rfl k_48 (v := .ref (ad 517 0)) rfl dX10_about_112 ?_
      refine lv_iload_n hx hb dX10_about_115 rfl (lv_at hl 2 rfl) ?_
      obtain ⟨g4, hf⟩ := gd_e hf
      refine x_iald (k := 517) (n := 0) hx hb hK hP (mk_517 h01) rfl g4 dX10_about_116 ?_
      exact x_iret hx hb hr hlocks hK hP hS (Option.some.inj hf) rfl dX10_about_117
    have hf := b_n hf hc1
    by_cases hc2 : v2 = (2 : Int32)
    · have hf := b_p hf hc2
      refine lv_tableIn (off := 63) (tgt := 118) hx hb dX10_about_55 (by rw [hc2]; decide) (by rw [hc2]; decide) (by rw [hc2]; rfl) rfl ?_
      refine lv_aload_n hx hb dX10_about_118 rfl (lv_at hl 1 rfl) ?_
      refine x_get (k := 500) (n := 0) hx hb hts i_X10 hown hK hP (mk_500 h01) rfl rfl 17 (by decide) rfl k_51 (v := .ref (ad 518 0)) rfl dX10_about_119 ?_
      refine lv_iload_n hx hb dX10_about_122 rfl (lv_at hl 2 rfl) ?_
      obtain ⟨g5, hf⟩ := gd_e hf
      refine x_iald (k := 518) (n := 0) hx hb hK hP (mk_518 h01) rfl g5 dX10_about_123 ?_
      exact x_iret hx hb hr hlocks hK hP hS (Option.some.inj hf) rfl dX10_about_124
    have hf := b_n hf hc2
    by_cases hc3 : v2 = (3 : Int32)
    · have hf := b_p hf hc3
      refine lv_tableIn (off := 70) (tgt := 125) hx hb dX10_about_55 (by rw [hc3]; decide) (by rw [hc3]; decide) (by rw [hc3]; rfl) rfl ?_
      refine lv_aload_n hx hb dX10_about_125 rfl (lv_at hl 1 rfl) ?_
      refine x_get (k := 500) (n := 0) hx hb hts i_X10 hown hK hP (mk_500 h01) rfl rfl 18 (by decide) rfl k_54 (v := .ref (ad 519 0)) rfl dX10_about_126 ?_
      refine lv_iload_n hx hb dX10_about_129 rfl (lv_at hl 2 rfl) ?_
      obtain ⟨g6, hf⟩ := gd_e hf
      refine x_zald (k := 519) (n := 0) hx hb hK hP (mk_519 h01) rfl g6 dX10_about_130 ?_
      refine lv_if_eq (tgt := 138) hx hb dX10_about_131 rfl (fun hc => ?_) (fun hc => ?_)
      · have hf := b_p hf hc
        refine lv_iconst (v := (0 : Int32)) hx hb dX10_about_138 rfl ?_
        exact x_iret hx hb hr hlocks hK hP hS (Option.some.inj hf) rfl dX10_about_139
      · have hf := b_n hf hc
        refine lv_iconst (v := (1 : Int32)) hx hb dX10_about_134 rfl ?_
        refine lv_goto (tgt := 139) hx hb dX10_about_135 rfl ?_
        exact x_iret hx hb hr hlocks hK hP hS (Option.some.inj hf) rfl dX10_about_139
    have hf := b_n hf hc3
    by_cases hc4 : v2 = (4 : Int32)
    · have hf := b_p hf hc4
      refine lv_tableIn (off := 85) (tgt := 140) hx hb dX10_about_55 (by rw [hc4]; decide) (by rw [hc4]; decide) (by rw [hc4]; rfl) rfl ?_
      refine lv_aload_n hx hb dX10_about_140 rfl (lv_at hl 1 rfl) ?_
      refine x_get (k := 500) (n := 0) hx hb hts i_X10 hown hK hP (mk_500 h01) rfl rfl 19 (by decide) rfl k_57 (v := .ref (ad 520 0)) rfl dX10_about_141 ?_
      refine lv_iload_n hx hb dX10_about_144 rfl (lv_at hl 2 rfl) ?_
      obtain ⟨g7, hf⟩ := gd_e hf
      refine x_iald (k := 520) (n := 0) hx hb hK hP (mk_520 h01) rfl g7 dX10_about_145 ?_
      exact x_iret hx hb hr hlocks hK hP hS (Option.some.inj hf) rfl dX10_about_146
    have hf := b_n hf hc4
    by_cases hc5 : v2 = (5 : Int32)
    · have hf := b_p hf hc5
      refine lv_tableIn (off := 92) (tgt := 147) hx hb dX10_about_55 (by rw [hc5]; decide) (by rw [hc5]; decide) (by rw [hc5]; rfl) rfl ?_
      refine lv_iload hx hb dX10_about_147 (lv_at hl 0 rfl) ?_
      refine lv_if_eq (tgt := 165) hx hb dX10_about_149 rfl (fun hc => ?_) (fun hc => ?_)
      · have hf := b_p hf hc
        refine lv_iconst (v := (0 : Int32)) hx hb dX10_about_165 rfl ?_
        exact x_iret hx hb hr hlocks hK hP hS (Option.some.inj hf) rfl dX10_about_166
      · have hf := b_n hf hc
        refine lv_aload_n hx hb dX10_about_152 rfl (lv_at hl 1 rfl) ?_
        refine x_get (k := 500) (n := 0) hx hb hts i_X10 hown hK hP (mk_500 h01) rfl rfl 20 (by decide) rfl k_60 (v := .ref (ad 521 0)) rfl dX10_about_153 ?_
        refine lv_iconst (v := (2 : Int32)) hx hb dX10_about_156 rfl ?_
        refine lv_iload_n hx hb dX10_about_157 rfl (lv_at hl 2 rfl) ?_
        refine lv_imul hx hb dX10_about_158 ?_
        refine lv_iload_n hx hb dX10_about_159 rfl (lv_at hl 4 rfl) ?_
        refine lv_iadd hx hb dX10_about_160 ?_
        obtain ⟨g8, hf⟩ := gd_e hf
        refine x_iald (k := 521) (n := 0) hx hb hK hP (mk_521 h01) rfl g8 dX10_about_161 ?_
        refine lv_goto (tgt := 166) hx hb dX10_about_162 rfl ?_
        exact x_iret hx hb hr hlocks hK hP hS (Option.some.inj hf) rfl dX10_about_166
    have hf := b_n hf hc5
    by_cases hc6 : v2 = (6 : Int32)
    · have hf := b_p hf hc6
      refine lv_tableIn (off := 92) (tgt := 147) hx hb dX10_about_55 (by rw [hc6]; decide) (by rw [hc6]; decide) (by rw [hc6]; rfl) rfl ?_
      refine lv_iload hx hb dX10_about_147 (lv_at hl 0 rfl) ?_
      refine lv_if_eq (tgt := 165) hx hb dX10_about_149 rfl (fun hc => ?_) (fun hc => ?_)
      · have hf := b_p hf hc
        refine lv_iconst (v := (0 : Int32)) hx hb dX10_about_165 rfl ?_
        exact x_iret hx hb hr hlocks hK hP hS (Option.some.inj hf) rfl dX10_about_166
      · have hf := b_n hf hc
        refine lv_aload_n hx hb dX10_about_152 rfl (lv_at hl 1 rfl) ?_
        refine x_get (k := 500) (n := 0) hx hb hts i_X10 hown hK hP (mk_500 h01) rfl rfl 20 (by decide) rfl k_60 (v := .ref (ad 521 0)) rfl dX10_about_153 ?_
        refine lv_iconst (v := (2 : Int32)) hx hb dX10_about_156 rfl ?_
        refine lv_iload_n hx hb dX10_about_157 rfl (lv_at hl 2 rfl) ?_
        refine lv_imul hx hb dX10_about_158 ?_
        refine lv_iload_n hx hb dX10_about_159 rfl (lv_at hl 4 rfl) ?_
        refine lv_iadd hx hb dX10_about_160 ?_
        obtain ⟨g9, hf⟩ := gd_e hf
        refine x_iald (k := 521) (n := 0) hx hb hK hP (mk_521 h01) rfl g9 dX10_about_161 ?_
        refine lv_goto (tgt := 166) hx hb dX10_about_162 rfl ?_
        exact x_iret hx hb hr hlocks hK hP hS (Option.some.inj hf) rfl dX10_about_166
    have hf := b_n hf hc6
    by_cases hc7 : v2 = (7 : Int32)
    · have hf := b_p hf hc7
      refine lv_tableIn (off := 112) (tgt := 167) hx hb dX10_about_55 (by rw [hc7]; decide) (by rw [hc7]; decide) (by rw [hc7]; rfl) rfl ?_
      refine lv_iload hx hb dX10_about_167 (lv_at hl 0 rfl) ?_
      refine lv_if_eq (tgt := 185) hx hb dX10_about_169 rfl (fun hc => ?_) (fun hc => ?_)
      · have hf := b_p hf hc
        refine lv_iconst (v := (0 : Int32)) hx hb dX10_about_185 rfl ?_
        exact x_iret hx hb hr hlocks hK hP hS (Option.some.inj hf) rfl dX10_about_186
      · have hf := b_n hf hc
        refine lv_aload_n hx hb dX10_about_172 rfl (lv_at hl 1 rfl) ?_
        refine x_get (k := 500) (n := 0) hx hb hts i_X10 hown hK hP (mk_500 h01) rfl rfl 21 (by decide) rfl k_63 (v := .ref (ad 522 0)) rfl dX10_about_173 ?_
        refine lv_iconst (v := (2 : Int32)) hx hb dX10_about_176 rfl ?_
        refine lv_iload_n hx hb dX10_about_177 rfl (lv_at hl 2 rfl) ?_
        refine lv_imul hx hb dX10_about_178 ?_
        refine lv_iload_n hx hb dX10_about_179 rfl (lv_at hl 4 rfl) ?_
        refine lv_iadd hx hb dX10_about_180 ?_
        obtain ⟨g10, hf⟩ := gd_e hf
        refine x_iald (k := 522) (n := 0) hx hb hK hP (mk_522 h01) rfl g10 dX10_about_181 ?_
        refine lv_goto (tgt := 186) hx hb dX10_about_182 rfl ?_
        exact x_iret hx hb hr hlocks hK hP hS (Option.some.inj hf) rfl dX10_about_186
    have hf := b_n hf hc7
    by_cases hc8 : v2 = (8 : Int32)
    · have hf := b_p hf hc8
      refine lv_tableIn (off := 112) (tgt := 167) hx hb dX10_about_55 (by rw [hc8]; decide) (by rw [hc8]; decide) (by rw [hc8]; rfl) rfl ?_
      refine lv_iload hx hb dX10_about_167 (lv_at hl 0 rfl) ?_
      refine lv_if_eq (tgt := 185) hx hb dX10_about_169 rfl (fun hc => ?_) (fun hc => ?_)
      · have hf := b_p hf hc
        refine lv_iconst (v := (0 : Int32)) hx hb dX10_about_185 rfl ?_
        exact x_iret hx hb hr hlocks hK hP hS (Option.some.inj hf) rfl dX10_about_186
      · have hf := b_n hf hc
        refine lv_aload_n hx hb dX10_about_172 rfl (lv_at hl 1 rfl) ?_
        refine x_get (k := 500) (n := 0) hx hb hts i_X10 hown hK hP (mk_500 h01) rfl rfl 21 (by decide) rfl k_63 (v := .ref (ad 522 0)) rfl dX10_about_173 ?_
        refine lv_iconst (v := (2 : Int32)) hx hb dX10_about_176 rfl ?_
        refine lv_iload_n hx hb dX10_about_177 rfl (lv_at hl 2 rfl) ?_
        refine lv_imul hx hb dX10_about_178 ?_
        refine lv_iload_n hx hb dX10_about_179 rfl (lv_at hl 4 rfl) ?_
        refine lv_iadd hx hb dX10_about_180 ?_
        obtain ⟨g11, hf⟩ := gd_e hf
        refine x_iald (k := 522) (n := 0) hx hb hK hP (mk_522 h01) rfl g11 dX10_about_181 ?_
        refine lv_goto (tgt := 186) hx hb dX10_about_182 rfl ?_
        exact x_iret hx hb hr hlocks hK hP hS (Option.some.inj hf) rfl dX10_about_186
    have hf := b_n hf hc8
    refine lv_tableOut (tgt := 187) hx hb dX10_about_55 (x_out (N := 8) (fun j hj => by rcases (show j = 0 ∨ j = 1 ∨ j = 2 ∨ j = 3 ∨ j = 4 ∨ j = 5 ∨ j = 6 ∨ j = 7 ∨ j = 8 by omega) with rfl | rfl | rfl | rfl | rfl | rfl | rfl | rfl | rfl <;> assumption)) rfl ?_
    refine lv_iload hx hb dX10_about_187 (lv_at hl 0 rfl) ?_
    refine lv_if_eq (tgt := 205) hx hb dX10_about_189 rfl (fun hc => ?_) (fun hc => ?_)
    · have hf := b_p hf hc
      refine lv_iconst (v := (0 : Int32)) hx hb dX10_about_205 rfl ?_
      exact x_iret hx hb hr hlocks hK hP hS (Option.some.inj hf) rfl dX10_about_206
    · have hf := b_n hf hc
      refine lv_aload_n hx hb dX10_about_192 rfl (lv_at hl 1 rfl) ?_
      refine x_get (k := 500) (n := 0) hx hb hts i_X10 hown hK hP (mk_500 h01) rfl rfl 22 (by decide) rfl k_66 (v := .ref (ad 523 0)) rfl dX10_about_193 ?_
      refine lv_iconst (v := (2 : Int32)) hx hb dX10_about_196 rfl ?_
      refine lv_iload_n hx hb dX10_about_197 rfl (lv_at hl 2 rfl) ?_
      refine lv_imul hx hb dX10_about_198 ?_
      refine lv_iload_n hx hb dX10_about_199 rfl (lv_at hl 4 rfl) ?_
      refine lv_iadd hx hb dX10_about_200 ?_
      obtain ⟨g12, hf⟩ := gd_e hf
      refine x_iald (k := 523) (n := 0) hx hb hK hP (mk_523 h01) rfl g12 dX10_about_201 ?_
      refine lv_goto (tgt := 206) hx hb dX10_about_202 rfl ?_
      exact x_iret hx hb hr hlocks hK hP hS (Option.some.inj hf) rfl dX10_about_206
  have c47 : ∀ (v1 : Int32) (v2 : Int32) (v3 : Int32) (H : Heap) (locs : List Loc) (ls : Array Slot), X10_about_c47 σ v1 v2 v3 = some res → lv_has ls 5 [(0, .ref (ad 500 0)), (1, .int v1), (2, .int v2), (3, .int v3)] → va_P G vwCl (wld ad ca σ LM) H → va_S A s.heap H locs → W p l e (headSpec wsX10_about ({ frames := 1, cells := 0, slots := 0, locals := 21 })).room s m (([.ref (ad 500 0), .int x1, .int x2] : List Value).toArray) below meth c H locs 0 0 (MQ below (va_Qi (fun r' u => r' = res ∧ u = σ) (ctB G ad ca LM) A) (([.ref (ad 500 0), .int x1, .int x2] : List Value).toArray) s 0 0 A) (F0 m 47 ls []) := by
    intro v1 v2 v3 H locs ls hf hl hP hS
    unfold X10_about_c47 at hf
    refine lv_iconst (v := (1 : Int32)) hx hb dX10_about_47 rfl ?_
    refine lv_goto (tgt := 52) hx hb dX10_about_48 rfl ?_
    exact c52 v1 v2 v3 (1 : Int32) _ _ _  hf (lv_sub hl [0, 1, 2, 3] rfl) hP hS
  refine lv_aload_n hx hb dX10_about_0 rfl (lv_at hl 0 rfl) ?_
  refine lv_iload_n hx hb dX10_about_1 rfl (lv_at hl 1 rfl) ?_
  obtain ⟨r1, hc1, hf⟩ := bd_e hf
  refine x_ci (va_runV (As := [.int x1]) (rest := []) ⟨hx, hb, hml, hown, hts⟩ (t_X10_isHandler l G ad ca A x1 hD  σ r1 hc1) (cwV 1 hts gr_X10_139 rfl rfl rfl h9_X10_isHandler ⟨Nat.le_of_ble_eq_true rfl, Nat.le_of_ble_eq_true rfl⟩) (x_prV zkM hz hK hP (mk_500 h01) rfl rfl) rfl rfl hl.1 rfl (lv_room (Nat.le_of_ble_eq_true rfl)) dX10_about_2 ⟨Nat.le_of_ble_eq_true rfl, Nat.le_of_ble_eq_true rfl⟩) hS (fun H locs hP hS => ?_)
  refine lv_if_eq (tgt := 18) hx hb dX10_about_5 rfl (fun hc => ?_) (fun hc => ?_)
  · have hf := b_p hf hc
    refine lv_bipush (v := (-2 : Int32)) hx hb dX10_about_18 rfl ?_
    exact x_iret hx hb hr hlocks hK hP hS (Option.some.inj hf) rfl dX10_about_20
  · have hf := b_n hf hc
    refine lv_iload_n hx hb dX10_about_8 rfl (lv_at hl 2 rfl) ?_
    refine lv_if_lt (tgt := 18) hx hb dX10_about_9 rfl (fun hc => ?_) (fun hc => ?_)
    · have hf := b_p hf hc
      refine lv_bipush (v := (-2 : Int32)) hx hb dX10_about_18 rfl ?_
      exact x_iret hx hb hr hlocks hK hP hS (Option.some.inj hf) rfl dX10_about_20
    · have hf := b_n hf hc
      refine lv_iload_n hx hb dX10_about_12 rfl (lv_at hl 2 rfl) ?_
      refine lv_bipush (v := (10 : Int32)) hx hb dX10_about_13 rfl ?_
      refine lv_icmp_le (tgt := 21) hx hb dX10_about_15 rfl (fun hc => ?_) (fun hc => ?_)
      · have hf := b_p hf hc
        refine lv_iload_n hx hb dX10_about_21 rfl (lv_at hl 2 rfl) ?_
        refine lv_iconst (v := (5 : Int32)) hx hb dX10_about_22 rfl ?_
        refine lv_isub hx hb dX10_about_23 ?_
        refine lv_iconst (v := (2 : Int32)) hx hb dX10_about_24 rfl ?_
        refine lv_irem hx hb dX10_about_25 (by decide) ?_
        obtain ⟨y2, e_y2, hf⟩ := nm_i hf
        refine x_nmI e_y2 ?_
        refine lv_istore_n (lv' := [(3, .int y2), (0, .ref (ad 500 0)), (1, .int x1), (2, .int x2)]) hx hb dX10_about_26 rfl hl (by decide) rfl (fun ls hl => ?_)
        refine lv_iload_n hx hb dX10_about_27 rfl (lv_at hl 3 rfl) ?_
        refine lv_iconst (v := (5 : Int32)) hx hb dX10_about_28 rfl ?_
        refine lv_icmp_lt (tgt := 47) hx hb dX10_about_29 rfl (fun hc => ?_) (fun hc => ?_)
        · have hf := b_p hf hc
          exact c47 x1 x2 y2 _ _ _  hf (lv_sub hl [1, 2, 3, 0] rfl) hP hS
        · have hf := b_n hf hc
          refine lv_iload_n hx hb dX10_about_32 rfl (lv_at hl 0 rfl) ?_
          refine lv_aload_n hx hb dX10_about_33 rfl (lv_at hl 1 rfl) ?_
          refine x_get (k := 500) (n := 0) hx hb hts i_X10 hown hK hP (mk_500 h01) rfl rfl 9 (by decide) rfl k_29 (v := .ref (ad 510 0)) rfl dX10_about_34 ?_
          refine lv_aload_n hx hb dX10_about_37 rfl (lv_at hl 1 rfl) ?_
          refine x_get (k := 500) (n := 0) hx hb hts i_X10 hown hK hP (mk_500 h01) rfl rfl 15 (by decide) rfl k_45 (v := .ref (ad 516 0)) rfl dX10_about_38 ?_
          refine lv_iload_n hx hb dX10_about_41 rfl (lv_at hl 2 rfl) ?_
          obtain ⟨g13, hf⟩ := gd_e hf
          refine x_iald (k := 516) (n := 0) hx hb hK hP (mk_516 h01) rfl g13 dX10_about_42 ?_
          obtain ⟨g14, hf⟩ := gd_e hf
          refine x_iald (k := 510) (n := 0) hx hb hK hP (mk_510 h01) rfl g14 dX10_about_43 ?_
          refine lv_icmp_ge (tgt := 51) hx hb dX10_about_44 rfl (fun hc => ?_) (fun hc => ?_)
          · have hf := b_p hf hc
            refine lv_iconst (v := (0 : Int32)) hx hb dX10_about_51 rfl ?_
            exact c52 x1 x2 y2 (0 : Int32) _ _ _  hf (lv_sub hl [1, 2, 3, 0] rfl) hP hS
          · have hf := b_n hf hc
            exact c47 x1 x2 y2 _ _ _  hf (lv_sub hl [1, 2, 3, 0] rfl) hP hS
      · have hf := b_n hf hc
        refine lv_bipush (v := (-2 : Int32)) hx hb dX10_about_18 rfl ?_
        exact x_iret hx hb hr hlocks hK hP hS (Option.some.inj hf) rfl dX10_about_20
theorem h9_X10_close : yX10_close.cls = RX10 ∧ yX10_close.cls ≠ "java/lang/invoke/MethodHandle" ∧ yX10_close.cls ≠ "java/lang/invoke/VarHandle" ∧ (parseMethodDescriptor yX10_close.desc).map (fun d => d.parameters.length) = some 0 := by decide +kernel
set_option maxRecDepth 100000 in
set_option maxHeartbeats 4000000 in
theorem t_X10_close (l : Launch) (G : va_G) (ad : Nat → Nat → Nat) (ca : Nat → ClassId) (A : Nat → Prop)   (hD : DW ad LM A)  (σ : PS) (res : Int32) (σz : PS) (hf : X10_close   σ = some (res, σz)) : Met l yX10_close wsX10_close ({ frames := 0, cells := 0, slots := 0, locals := 0 }) (ctP G ad ca LM σ ZM [.ref (ad 500 0)]) (va_Qi (fun r' u => r' = res ∧ u = σz) (ctB G ad ca LM) A) 0 0 A := by
  refine Met.ofW (cc := cX10_close) (maxL := 4) (ret := (some .int)) (by decide) rfl ?_
  intro p e s m args below meth c s₁ B hml hv
  obtain ⟨rfl, hP, hK, hz⟩ := hv
  have hx := B.exec
  have hb := B.bytes
  have hr := B.returns
  have hts : ∀ w ∈ WW, w.before _ s = true := fun w h => atoms_spec (ws := wsX10_close) B.pre w (List.mem_cons_of_mem _ h)
  have hown : s.vm.findClass RX10 = some m.cls := findClass_of_methodNamed B.named
  have hlocks := B.notSynchronized
  have hS : va_S A s.heap s.heap [] := va_S.rf
  have k_7 := hts _ kf_X10_7
  have k_13 := hts _ kf_X10_13
  have k_17 := hts _ kf_X10_17
  have k_110 := hts _ kf_X10_110
  have hl := lv_entry ([.ref (ad 500 0)]) (n := 4) (Nat.le_of_ble_eq_true rfl)
  rw [lg_entry_eq]
  generalize (lg_sl ([.ref (ad 500 0)]) ++ List.replicate (4 - (lg_sl ([.ref (ad 500 0)])).length) Slot.unset).toArray = ls at hl ⊢
  have hl : lv_has ls 4 [(0, .ref (ad 500 0))] := hl
  unfold X10_close at hf
  have l12 : ∀ (kx12 : PS → Option (Int32 × PS)), (∀ (σ : PS) (H : Heap) (locs : List Loc) (ls : Array Slot), kx12 σ = some (res, σz) → lv_has ls 4 [(0, .ref (ad 500 0))] → va_P G vwCl (wld ad ca σ LM) H → va_S A s.heap H locs → W p l e (headSpec wsX10_close ({ frames := 0, cells := 0, slots := 0, locals := 0 })).room s m (([.ref (ad 500 0)] : List Value).toArray) below meth c H locs 0 0 (MQ below (va_Qi (fun r' u => r' = res ∧ u = σz) (ctB G ad ca LM) A) (([.ref (ad 500 0)] : List Value).toArray) s 0 0 A) (F0 m 37 ls [])) → ∀ (n12 : Nat) (v1 : Int32) (σ : PS) (H : Heap) (locs : List Loc) (ls : Array Slot), X10_close_l12  kx12 n12 v1 σ = some (res, σz) → lv_has ls 4 [(0, .ref (ad 500 0)), (1, .int v1)] → va_P G vwCl (wld ad ca σ LM) H → va_S A s.heap H locs → W p l e (headSpec wsX10_close ({ frames := 0, cells := 0, slots := 0, locals := 0 })).room s m (([.ref (ad 500 0)] : List Value).toArray) below meth c H locs 0 0 (MQ below (va_Qi (fun r' u => r' = res ∧ u = σz) (ctB G ad ca LM) A) (([.ref (ad 500 0)] : List Value).toArray) s 0 0 A) (F0 m 12 ls []) := by
    intro kx12 hx12 n12
    induction n12 with
    | zero =>
      intro v1 σ H locs ls hf
      exact absurd hf (by simp [X10_close_l12])
    | succ n12 ih12 =>
      intro v1 σ H locs ls hf hl hP hS
      rw [X10_close_l12.eq_2] at hf
      refine lv_iload_n hx hb dX10_close_12 rfl (lv_at hl 1 rfl) ?_
      refine lv_sipush (v := (256 : Int32)) hx hb dX10_close_13 rfl ?_
      refine lv_icmp_ge (tgt := 37) hx hb dX10_close_16 rfl (fun hc => ?_) (fun hc => ?_)
      · have hf := b_p hf hc
        exact hx12  σ _ _ _  hf (lv_sub hl [0] rfl) hP hS
      · have hf := b_n hf hc
        refine lv_aload_n hx hb dX10_close_19 rfl (lv_at hl 0 rfl) ?_
        refine x_get (k := 500) (n := 0) hx hb hts i_X10 hown hK hP (mk_500 h01) rfl rfl 2 (by decide) rfl k_17 (v := .ref (ad 503 0)) rfl dX10_close_20 ?_
        refine lv_iload_n hx hb dX10_close_23 rfl (lv_at hl 1 rfl) ?_
        refine lv_aload_n hx hb dX10_close_24 rfl (lv_at hl 0 rfl) ?_
        refine x_get (k := 500) (n := 0) hx hb hts i_X10 hown hK hP (mk_500 h01) rfl rfl 1 (by decide) rfl k_13 (v := .ref (ad 502 0)) rfl dX10_close_25 ?_
        refine lv_iload_n hx hb dX10_close_28 rfl (lv_at hl 1 rfl) ?_
        obtain ⟨g1, hf⟩ := gd_e hf
        refine x_zald (k := 502) (n := 0) hx hb hK hP (mk_502 h01) rfl g1 dX10_close_29 ?_
        obtain ⟨g2, hf⟩ := gd_e hf
        obtain ⟨g3, hf⟩ := gd_e hf
        refine x_zast (k := 503) (n := 0) hx hb hK hD hP hS (mk_503 h01) rfl g2 g3 dX10_close_30 (fun H locs hP hS => ?_)
        obtain ⟨σ4, e_σ4, hf⟩ := nm_i hf
        have hP : va_P G vwCl (wld ad ca σ4 LM) H := by rw [e_σ4]; exact hP
        refine lv_iinc (v := (v1 + (1 : Int32))) (lv' := [(1, .int (v1 + (1 : Int32))), (0, .ref (ad 500 0))]) hx hb dX10_close_31 hl (k := 1) rfl rfl (by decide) rfl (fun ls hl => ?_)
        refine lv_goto (tgt := 12) hx hb dX10_close_34 rfl ?_
        exact ih12 (v1 + (1 : Int32)) σ4 _ _ _  hf (lv_sub hl [1, 0] rfl) hP hS
  have l39 : ∀ (kx39 : PS → Option (Int32 × PS)), (∀ (σ : PS) (H : Heap) (locs : List Loc) (ls : Array Slot), kx39 σ = some (res, σz) → lv_has ls 4 [(0, .ref (ad 500 0))] → va_P G vwCl (wld ad ca σ LM) H → va_S A s.heap H locs → W p l e (headSpec wsX10_close ({ frames := 0, cells := 0, slots := 0, locals := 0 })).room s m (([.ref (ad 500 0)] : List Value).toArray) below meth c H locs 0 0 (MQ below (va_Qi (fun r' u => r' = res ∧ u = σz) (ctB G ad ca LM) A) (([.ref (ad 500 0)] : List Value).toArray) s 0 0 A) (F0 m 77 ls [])) → ∀ (n39 : Nat) (v1 : Int32) (σ : PS) (H : Heap) (locs : List Loc) (ls : Array Slot), X10_close_l39  kx39 n39 v1 σ = some (res, σz) → lv_has ls 4 [(0, .ref (ad 500 0)), (1, .int v1)] → va_P G vwCl (wld ad ca σ LM) H → va_S A s.heap H locs → W p l e (headSpec wsX10_close ({ frames := 0, cells := 0, slots := 0, locals := 0 })).room s m (([.ref (ad 500 0)] : List Value).toArray) below meth c H locs 0 0 (MQ below (va_Qi (fun r' u => r' = res ∧ u = σz) (ctB G ad ca LM) A) (([.ref (ad 500 0)] : List Value).toArray) s 0 0 A) (F0 m 39 ls []) := by
    intro kx39 hx39 n39
    induction n39 with
    | zero =>
      intro v1 σ H locs ls hf
      exact absurd hf (by simp [X10_close_l39])
    | succ n39 ih39 =>
      intro v1 σ H locs ls hf hl hP hS
      rw [X10_close_l39.eq_2] at hf
      refine lv_iload_n hx hb dX10_close_39 rfl (lv_at hl 1 rfl) ?_
      refine lv_bipush (v := (12 : Int32)) hx hb dX10_close_40 rfl ?_
      refine lv_icmp_ge (tgt := 77) hx hb dX10_close_42 rfl (fun hc => ?_) (fun hc => ?_)
      · have hf := b_p hf hc
        exact hx39  σ _ _ _  hf (lv_sub hl [0] rfl) hP hS
      · have hf := b_n hf hc
        refine lv_aload_n hx hb dX10_close_45 rfl (lv_at hl 0 rfl) ?_
        refine x_get (k := 500) (n := 0) hx hb hts i_X10 hown hK hP (mk_500 h01) rfl rfl 0 (by decide) rfl k_7 (v := .ref (ad 501 0)) rfl dX10_close_46 ?_
        refine lv_iload_n hx hb dX10_close_49 rfl (lv_at hl 1 rfl) ?_
        obtain ⟨g5, hf⟩ := gd_e hf
        refine x_iald (k := 501) (n := 0) hx hb hK hP (mk_501 h01) rfl g5 dX10_close_50 ?_
        refine lv_if_lt (tgt := 71) hx hb dX10_close_51 rfl (fun hc => ?_) (fun hc => ?_)
        · have hf := b_p hf hc
          refine lv_iinc (v := (v1 + (1 : Int32))) (lv' := [(1, .int (v1 + (1 : Int32))), (0, .ref (ad 500 0))]) hx hb dX10_close_71 hl (k := 1) rfl rfl (by decide) rfl (fun ls hl => ?_)
          refine lv_goto (tgt := 39) hx hb dX10_close_74 rfl ?_
          exact ih39 (v1 + (1 : Int32)) σ _ _ _  hf (lv_sub hl [1, 0] rfl) hP hS
        · have hf := b_n hf hc
          refine lv_aload_n hx hb dX10_close_54 rfl (lv_at hl 0 rfl) ?_
          refine x_get (k := 500) (n := 0) hx hb hts i_X10 hown hK hP (mk_500 h01) rfl rfl 2 (by decide) rfl k_17 (v := .ref (ad 503 0)) rfl dX10_close_55 ?_
          refine lv_bipush (v := (16 : Int32)) hx hb dX10_close_58 rfl ?_
          refine lv_iload_n hx hb dX10_close_60 rfl (lv_at hl 1 rfl) ?_
          refine lv_imul hx hb dX10_close_61 ?_
          refine lv_aload_n hx hb dX10_close_62 rfl (lv_at hl 0 rfl) ?_
          refine x_get (k := 500) (n := 0) hx hb hts i_X10 hown hK hP (mk_500 h01) rfl rfl 0 (by decide) rfl k_7 (v := .ref (ad 501 0)) rfl dX10_close_63 ?_
          refine lv_iload_n hx hb dX10_close_66 rfl (lv_at hl 1 rfl) ?_
          obtain ⟨g6, hf⟩ := gd_e hf
          refine x_iald (k := 501) (n := 0) hx hb hK hP (mk_501 h01) rfl g6 dX10_close_67 ?_
          refine lv_iadd hx hb dX10_close_68 ?_
          refine lv_iconst (v := (1 : Int32)) hx hb dX10_close_69 rfl ?_
          obtain ⟨g7, hf⟩ := gd_e hf
          refine x_zast (k := 503) (n := 0) hx hb hK hD hP hS (mk_503 h01) rfl (by decide) g7 dX10_close_70 (fun H locs hP hS => ?_)
          obtain ⟨σ8, e_σ8, hf⟩ := nm_i hf
          have hP : va_P G vwCl (wld ad ca σ8 LM) H := by rw [e_σ8]; exact hP
          refine lv_iinc (v := (v1 + (1 : Int32))) (lv' := [(1, .int (v1 + (1 : Int32))), (0, .ref (ad 500 0))]) hx hb dX10_close_71 hl (k := 1) rfl rfl (by decide) rfl (fun ls hl => ?_)
          refine lv_goto (tgt := 39) hx hb dX10_close_74 rfl ?_
          exact ih39 (v1 + (1 : Int32)) σ8 _ _ _  hf (lv_sub hl [1, 0] rfl) hP hS
  have l79 : ∀ (kx79 : PS → Option (Int32 × PS)), (∀ (σ : PS) (H : Heap) (locs : List Loc) (ls : Array Slot), kx79 σ = some (res, σz) → lv_has ls 4 [(0, .ref (ad 500 0))] → va_P G vwCl (wld ad ca σ LM) H → va_S A s.heap H locs → W p l e (headSpec wsX10_close ({ frames := 0, cells := 0, slots := 0, locals := 0 })).room s m (([.ref (ad 500 0)] : List Value).toArray) below meth c H locs 0 0 (MQ below (va_Qi (fun r' u => r' = res ∧ u = σz) (ctB G ad ca LM) A) (([.ref (ad 500 0)] : List Value).toArray) s 0 0 A) (F0 m 177 ls [])) → ∀ (n79 : Nat) (v1 : Int32) (σ : PS) (H : Heap) (locs : List Loc) (ls : Array Slot), X10_close_l79  kx79 n79 v1 σ = some (res, σz) → lv_has ls 4 [(0, .ref (ad 500 0)), (1, .int v1)] → va_P G vwCl (wld ad ca σ LM) H → va_S A s.heap H locs → W p l e (headSpec wsX10_close ({ frames := 0, cells := 0, slots := 0, locals := 0 })).room s m (([.ref (ad 500 0)] : List Value).toArray) below meth c H locs 0 0 (MQ below (va_Qi (fun r' u => r' = res ∧ u = σz) (ctB G ad ca LM) A) (([.ref (ad 500 0)] : List Value).toArray) s 0 0 A) (F0 m 79 ls []) := by
    intro kx79 hx79 n79
    induction n79 with
    | zero =>
      intro v1 σ H locs ls hf
      exact absurd hf (by simp [X10_close_l79])
    | succ n79 ih79 =>
      intro v1 σ H locs ls hf hl hP hS
      rw [X10_close_l79.eq_2] at hf
      have l87 : ∀ (kx87 : Int32 → PS → Option (Int32 × PS)), (∀ (v1 : Int32) (σ : PS) (H : Heap) (locs : List Loc) (ls : Array Slot), kx87 v1 σ = some (res, σz) → lv_has ls 4 [(0, .ref (ad 500 0)), (1, .int v1)] → va_P G vwCl (wld ad ca σ LM) H → va_S A s.heap H locs → W p l e (headSpec wsX10_close ({ frames := 0, cells := 0, slots := 0, locals := 0 })).room s m (([.ref (ad 500 0)] : List Value).toArray) below meth c H locs 0 0 (MQ below (va_Qi (fun r' u => r' = res ∧ u = σz) (ctB G ad ca LM) A) (([.ref (ad 500 0)] : List Value).toArray) s 0 0 A) (F0 m 171 ls [])) → ∀ (n87 : Nat) (v1 : Int32) (v2 : Int32) (σ : PS) (H : Heap) (locs : List Loc) (ls : Array Slot), X10_close_l87  kx87 n87 v1 v2 σ = some (res, σz) → lv_has ls 4 [(0, .ref (ad 500 0)), (1, .int v1), (2, .int v2)] → va_P G vwCl (wld ad ca σ LM) H → va_S A s.heap H locs → W p l e (headSpec wsX10_close ({ frames := 0, cells := 0, slots := 0, locals := 0 })).room s m (([.ref (ad 500 0)] : List Value).toArray) below meth c H locs 0 0 (MQ below (va_Qi (fun r' u => r' = res ∧ u = σz) (ctB G ad ca LM) A) (([.ref (ad 500 0)] : List Value).toArray) s 0 0 A) (F0 m 87 ls []) := by
        intro kx87 hx87 n87
        induction n87 with
        | zero =>
          intro v1 v2 σ H locs ls hf
          exact absurd hf (by simp [X10_close_l87])
        | succ n87 ih87 =>
          intro v1 v2 σ H locs ls hf hl hP hS
          rw [X10_close_l87.eq_2] at hf
          have l95 : ∀ (kx95 : Int32 → Int32 → PS → Option (Int32 × PS)), (∀ (v1 : Int32) (v2 : Int32) (σ : PS) (H : Heap) (locs : List Loc) (ls : Array Slot), kx95 v1 v2 σ = some (res, σz) → lv_has ls 4 [(0, .ref (ad 500 0)), (1, .int v1), (2, .int v2)] → va_P G vwCl (wld ad ca σ LM) H → va_S A s.heap H locs → W p l e (headSpec wsX10_close ({ frames := 0, cells := 0, slots := 0, locals := 0 })).room s m (([.ref (ad 500 0)] : List Value).toArray) below meth c H locs 0 0 (MQ below (va_Qi (fun r' u => r' = res ∧ u = σz) (ctB G ad ca LM) A) (([.ref (ad 500 0)] : List Value).toArray) s 0 0 A) (F0 m 165 ls [])) → ∀ (n95 : Nat) (v1 : Int32) (v2 : Int32) (v3 : Int32) (σ : PS) (H : Heap) (locs : List Loc) (ls : Array Slot), X10_close_l95  kx95 n95 v1 v2 v3 σ = some (res, σz) → lv_has ls 4 [(0, .ref (ad 500 0)), (1, .int v1), (2, .int v2), (3, .int v3)] → va_P G vwCl (wld ad ca σ LM) H → va_S A s.heap H locs → W p l e (headSpec wsX10_close ({ frames := 0, cells := 0, slots := 0, locals := 0 })).room s m (([.ref (ad 500 0)] : List Value).toArray) below meth c H locs 0 0 (MQ below (va_Qi (fun r' u => r' = res ∧ u = σz) (ctB G ad ca LM) A) (([.ref (ad 500 0)] : List Value).toArray) s 0 0 A) (F0 m 95 ls []) := by
            intro kx95 hx95 n95
            induction n95 with
            | zero =>
              intro v1 v2 v3 σ H locs ls hf
              exact absurd hf (by simp [X10_close_l95])
            | succ n95 ih95 =>
              intro v1 v2 v3 σ H locs ls hf hl hP hS
              rw [X10_close_l95.eq_2] at hf
              refine lv_iload_n hx hb dX10_close_95 rfl (lv_at hl 3 rfl) ?_
              refine lv_bipush (v := (16 : Int32)) hx hb dX10_close_96 rfl ?_
              refine lv_icmp_ge (tgt := 165) hx hb dX10_close_98 rfl (fun hc => ?_) (fun hc => ?_)
              · have hf := b_p hf hc
                exact hx95 v1 v2 σ _ _ _  hf (lv_sub hl [0, 1, 2] rfl) hP hS
              · have hf := b_n hf hc
                refine lv_aload_n hx hb dX10_close_101 rfl (lv_at hl 0 rfl) ?_
                refine x_get (k := 500) (n := 0) hx hb hts i_X10 hown hK hP (mk_500 h01) rfl rfl 2 (by decide) rfl k_17 (v := .ref (ad 503 0)) rfl dX10_close_102 ?_
                refine lv_bipush (v := (16 : Int32)) hx hb dX10_close_105 rfl ?_
                refine lv_iload_n hx hb dX10_close_107 rfl (lv_at hl 2 rfl) ?_
                refine lv_imul hx hb dX10_close_108 ?_
                refine lv_iload_n hx hb dX10_close_109 rfl (lv_at hl 3 rfl) ?_
                refine lv_iadd hx hb dX10_close_110 ?_
                refine lv_aload_n hx hb dX10_close_111 rfl (lv_at hl 0 rfl) ?_
                refine x_get (k := 500) (n := 0) hx hb hts i_X10 hown hK hP (mk_500 h01) rfl rfl 2 (by decide) rfl k_17 (v := .ref (ad 503 0)) rfl dX10_close_112 ?_
                refine lv_bipush (v := (16 : Int32)) hx hb dX10_close_115 rfl ?_
                refine lv_iload_n hx hb dX10_close_117 rfl (lv_at hl 2 rfl) ?_
                refine lv_imul hx hb dX10_close_118 ?_
                refine lv_iload_n hx hb dX10_close_119 rfl (lv_at hl 3 rfl) ?_
                refine lv_iadd hx hb dX10_close_120 ?_
                obtain ⟨g9, hf⟩ := gd_e hf
                refine x_zald (k := 503) (n := 0) hx hb hK hP (mk_503 h01) rfl g9 dX10_close_121 ?_
                refine lv_if_ne (tgt := 153) hx hb dX10_close_122 rfl (fun hc => ?_) (fun hc => ?_)
                · have hf := b_n hf hc
                  refine lv_iconst (v := (1 : Int32)) hx hb dX10_close_153 rfl ?_
                  refine lv_goto (tgt := 158) hx hb dX10_close_154 rfl ?_
                  obtain ⟨g10, hf⟩ := gd_e hf
                  refine x_zast (k := 503) (n := 0) hx hb hK hD hP hS (mk_503 h01) rfl (by decide) g10 dX10_close_158 (fun H locs hP hS => ?_)
                  obtain ⟨σ11, e_σ11, hf⟩ := nm_i hf
                  have hP : va_P G vwCl (wld ad ca σ11 LM) H := by rw [e_σ11]; exact hP
                  refine lv_iinc (v := (v3 + (1 : Int32))) (lv' := [(3, .int (v3 + (1 : Int32))), (0, .ref (ad 500 0)), (1, .int v1), (2, .int v2)]) hx hb dX10_close_159 hl (k := 3) rfl rfl (by decide) rfl (fun ls hl => ?_)
                  refine lv_goto (tgt := 95) hx hb dX10_close_162 rfl ?_
                  exact ih95 v1 v2 (v3 + (1 : Int32)) σ11 _ _ _  hf (lv_sub hl [1, 2, 3, 0] rfl) hP hS
                · have hf := b_p hf hc
                  refine lv_aload_n hx hb dX10_close_125 rfl (lv_at hl 0 rfl) ?_
                  refine x_get (k := 500) (n := 0) hx hb hts i_X10 hown hK hP (mk_500 h01) rfl rfl 2 (by decide) rfl k_17 (v := .ref (ad 503 0)) rfl dX10_close_126 ?_
                  refine lv_bipush (v := (16 : Int32)) hx hb dX10_close_129 rfl ?_
                  refine lv_iload_n hx hb dX10_close_131 rfl (lv_at hl 2 rfl) ?_
                  refine lv_imul hx hb dX10_close_132 ?_
                  refine lv_iload_n hx hb dX10_close_133 rfl (lv_at hl 1 rfl) ?_
                  refine lv_iadd hx hb dX10_close_134 ?_
                  obtain ⟨g12, hf⟩ := gd_e hf
                  refine x_zald (k := 503) (n := 0) hx hb hK hP (mk_503 h01) rfl g12 dX10_close_135 ?_
                  refine lv_if_eq (tgt := 157) hx hb dX10_close_136 rfl (fun hc => ?_) (fun hc => ?_)
                  · have hf := b_p hf hc
                    refine lv_iconst (v := (0 : Int32)) hx hb dX10_close_157 rfl ?_
                    obtain ⟨g13, hf⟩ := gd_e hf
                    refine x_zast (k := 503) (n := 0) hx hb hK hD hP hS (mk_503 h01) rfl (by decide) g13 dX10_close_158 (fun H locs hP hS => ?_)
                    obtain ⟨σ14, e_σ14, hf⟩ := nm_i hf
                    have hP : va_P G vwCl (wld ad ca σ14 LM) H := by rw [e_σ14]; exact hP
                    refine lv_iinc (v := (v3 + (1 : Int32))) (lv' := [(3, .int (v3 + (1 : Int32))), (0, .ref (ad 500 0)), (1, .int v1), (2, .int v2)]) hx hb dX10_close_159 hl (k := 3) rfl rfl (by decide) rfl (fun ls hl => ?_)
                    refine lv_goto (tgt := 95) hx hb dX10_close_162 rfl ?_
                    exact ih95 v1 v2 (v3 + (1 : Int32)) σ14 _ _ _  hf (lv_sub hl [1, 2, 3, 0] rfl) hP hS
                  · have hf := b_n hf hc
                    refine lv_aload_n hx hb dX10_close_139 rfl (lv_at hl 0 rfl) ?_
                    refine x_get (k := 500) (n := 0) hx hb hts i_X10 hown hK hP (mk_500 h01) rfl rfl 2 (by decide) rfl k_17 (v := .ref (ad 503 0)) rfl dX10_close_140 ?_
                    refine lv_bipush (v := (16 : Int32)) hx hb dX10_close_143 rfl ?_
                    refine lv_iload_n hx hb dX10_close_145 rfl (lv_at hl 1 rfl) ?_
                    refine lv_imul hx hb dX10_close_146 ?_
                    refine lv_iload_n hx hb dX10_close_147 rfl (lv_at hl 3 rfl) ?_
                    refine lv_iadd hx hb dX10_close_148 ?_
                    obtain ⟨g15, hf⟩ := gd_e hf
                    refine x_zald (k := 503) (n := 0) hx hb hK hP (mk_503 h01) rfl g15 dX10_close_149 ?_
                    refine lv_if_eq (tgt := 157) hx hb dX10_close_150 rfl (fun hc => ?_) (fun hc => ?_)
                    · have hf := b_p hf hc
                      refine lv_iconst (v := (0 : Int32)) hx hb dX10_close_157 rfl ?_
                      obtain ⟨g16, hf⟩ := gd_e hf
                      refine x_zast (k := 503) (n := 0) hx hb hK hD hP hS (mk_503 h01) rfl (by decide) g16 dX10_close_158 (fun H locs hP hS => ?_)
                      obtain ⟨σ17, e_σ17, hf⟩ := nm_i hf
                      have hP : va_P G vwCl (wld ad ca σ17 LM) H := by rw [e_σ17]; exact hP
                      refine lv_iinc (v := (v3 + (1 : Int32))) (lv' := [(3, .int (v3 + (1 : Int32))), (0, .ref (ad 500 0)), (1, .int v1), (2, .int v2)]) hx hb dX10_close_159 hl (k := 3) rfl rfl (by decide) rfl (fun ls hl => ?_)
                      refine lv_goto (tgt := 95) hx hb dX10_close_162 rfl ?_
                      exact ih95 v1 v2 (v3 + (1 : Int32)) σ17 _ _ _  hf (lv_sub hl [1, 2, 3, 0] rfl) hP hS
                    · have hf := b_n hf hc
                      refine lv_iconst (v := (1 : Int32)) hx hb dX10_close_153 rfl ?_
                      refine lv_goto (tgt := 158) hx hb dX10_close_154 rfl ?_
                      obtain ⟨g18, hf⟩ := gd_e hf
                      refine x_zast (k := 503) (n := 0) hx hb hK hD hP hS (mk_503 h01) rfl (by decide) g18 dX10_close_158 (fun H locs hP hS => ?_)
                      obtain ⟨σ19, e_σ19, hf⟩ := nm_i hf
                      have hP : va_P G vwCl (wld ad ca σ19 LM) H := by rw [e_σ19]; exact hP
                      refine lv_iinc (v := (v3 + (1 : Int32))) (lv' := [(3, .int (v3 + (1 : Int32))), (0, .ref (ad 500 0)), (1, .int v1), (2, .int v2)]) hx hb dX10_close_159 hl (k := 3) rfl rfl (by decide) rfl (fun ls hl => ?_)
                      refine lv_goto (tgt := 95) hx hb dX10_close_162 rfl ?_
                      exact ih95 v1 v2 (v3 + (1 : Int32)) σ19 _ _ _  hf (lv_sub hl [1, 2, 3, 0] rfl) hP hS
          have c165 : ∀ (v1 : Int32) (v2 : Int32) (σ : PS) (H : Heap) (locs : List Loc) (ls : Array Slot), X10_close_c165  (X10_close_l87  kx87 n87) kx87 v1 v2 σ = some (res, σz) → lv_has ls 4 [(0, .ref (ad 500 0)), (1, .int v1), (2, .int v2)] → va_P G vwCl (wld ad ca σ LM) H → va_S A s.heap H locs → W p l e (headSpec wsX10_close ({ frames := 0, cells := 0, slots := 0, locals := 0 })).room s m (([.ref (ad 500 0)] : List Value).toArray) below meth c H locs 0 0 (MQ below (va_Qi (fun r' u => r' = res ∧ u = σz) (ctB G ad ca LM) A) (([.ref (ad 500 0)] : List Value).toArray) s 0 0 A) (F0 m 165 ls []) := by
            intro v1 v2 σ H locs ls hf hl hP hS
            unfold X10_close_c165 at hf
            refine lv_iinc (v := (v2 + (1 : Int32))) (lv' := [(2, .int (v2 + (1 : Int32))), (0, .ref (ad 500 0)), (1, .int v1)]) hx hb dX10_close_165 hl (k := 2) rfl rfl (by decide) rfl (fun ls hl => ?_)
            refine lv_goto (tgt := 87) hx hb dX10_close_168 rfl ?_
            exact ih87 v1 (v2 + (1 : Int32)) σ _ _ _  hf (lv_sub hl [1, 2, 0] rfl) hP hS
          refine lv_iload_n hx hb dX10_close_87 rfl (lv_at hl 2 rfl) ?_
          refine lv_bipush (v := (16 : Int32)) hx hb dX10_close_88 rfl ?_
          refine lv_icmp_ge (tgt := 171) hx hb dX10_close_90 rfl (fun hc => ?_) (fun hc => ?_)
          · have hf := b_p hf hc
            exact hx87 v1 σ _ _ _  hf (lv_sub hl [0, 1] rfl) hP hS
          · have hf := b_n hf hc
            refine lv_iconst (v := (0 : Int32)) hx hb dX10_close_93 rfl ?_
            refine lv_istore_n (lv' := [(3, .int (0 : Int32)), (0, .ref (ad 500 0)), (1, .int v1), (2, .int v2)]) hx hb dX10_close_94 rfl hl (by decide) rfl (fun ls hl => ?_)
            exact l95 _ c165 _ v1 v2 (0 : Int32) σ _ _ _  hf (lv_sub hl [1, 2, 3, 0] rfl) hP hS
      have c171 : ∀ (v1 : Int32) (σ : PS) (H : Heap) (locs : List Loc) (ls : Array Slot), X10_close_c171  (X10_close_l79  kx79 n79) kx79 v1 σ = some (res, σz) → lv_has ls 4 [(0, .ref (ad 500 0)), (1, .int v1)] → va_P G vwCl (wld ad ca σ LM) H → va_S A s.heap H locs → W p l e (headSpec wsX10_close ({ frames := 0, cells := 0, slots := 0, locals := 0 })).room s m (([.ref (ad 500 0)] : List Value).toArray) below meth c H locs 0 0 (MQ below (va_Qi (fun r' u => r' = res ∧ u = σz) (ctB G ad ca LM) A) (([.ref (ad 500 0)] : List Value).toArray) s 0 0 A) (F0 m 171 ls []) := by
        intro v1 σ H locs ls hf hl hP hS
        unfold X10_close_c171 at hf
        refine lv_iinc (v := (v1 + (1 : Int32))) (lv' := [(1, .int (v1 + (1 : Int32))), (0, .ref (ad 500 0))]) hx hb dX10_close_171 hl (k := 1) rfl rfl (by decide) rfl (fun ls hl => ?_)
        refine lv_goto (tgt := 79) hx hb dX10_close_174 rfl ?_
        exact ih79 (v1 + (1 : Int32)) σ _ _ _  hf (lv_sub hl [1, 0] rfl) hP hS
      refine lv_iload_n hx hb dX10_close_79 rfl (lv_at hl 1 rfl) ?_
      refine lv_bipush (v := (16 : Int32)) hx hb dX10_close_80 rfl ?_
      refine lv_icmp_ge (tgt := 177) hx hb dX10_close_82 rfl (fun hc => ?_) (fun hc => ?_)
      · have hf := b_p hf hc
        exact hx79  σ _ _ _  hf (lv_sub hl [0] rfl) hP hS
      · have hf := b_n hf hc
        refine lv_iconst (v := (0 : Int32)) hx hb dX10_close_85 rfl ?_
        refine lv_istore_n (lv' := [(2, .int (0 : Int32)), (0, .ref (ad 500 0)), (1, .int v1)]) hx hb dX10_close_86 rfl hl (by decide) rfl (fun ls hl => ?_)
        exact l87 _ c171 _ v1 (0 : Int32) σ _ _ _  hf (lv_sub hl [1, 2, 0] rfl) hP hS
  have l179 : ∀ (kx179 : PS → Option (Int32 × PS)), (∀ (σ : PS) (H : Heap) (locs : List Loc) (ls : Array Slot), kx179 σ = some (res, σz) → lv_has ls 4 [(0, .ref (ad 500 0))] → va_P G vwCl (wld ad ca σ LM) H → va_S A s.heap H locs → W p l e (headSpec wsX10_close ({ frames := 0, cells := 0, slots := 0, locals := 0 })).room s m (([.ref (ad 500 0)] : List Value).toArray) below meth c H locs 0 0 (MQ below (va_Qi (fun r' u => r' = res ∧ u = σz) (ctB G ad ca LM) A) (([.ref (ad 500 0)] : List Value).toArray) s 0 0 A) (F0 m 206 ls [])) → ∀ (n179 : Nat) (v1 : Int32) (σ : PS) (H : Heap) (locs : List Loc) (ls : Array Slot), X10_close_l179  kx179 n179 v1 σ = some (res, σz) → lv_has ls 4 [(0, .ref (ad 500 0)), (1, .int v1)] → va_P G vwCl (wld ad ca σ LM) H → va_S A s.heap H locs → W p l e (headSpec wsX10_close ({ frames := 0, cells := 0, slots := 0, locals := 0 })).room s m (([.ref (ad 500 0)] : List Value).toArray) below meth c H locs 0 0 (MQ below (va_Qi (fun r' u => r' = res ∧ u = σz) (ctB G ad ca LM) A) (([.ref (ad 500 0)] : List Value).toArray) s 0 0 A) (F0 m 179 ls []) := by
    intro kx179 hx179 n179
    induction n179 with
    | zero =>
      intro v1 σ H locs ls hf
      exact absurd hf (by simp [X10_close_l179])
    | succ n179 ih179 =>
      intro v1 σ H locs ls hf hl hP hS
      rw [X10_close_l179.eq_2] at hf
      refine lv_iload_n hx hb dX10_close_179 rfl (lv_at hl 1 rfl) ?_
      refine lv_bipush (v := (16 : Int32)) hx hb dX10_close_180 rfl ?_
      refine lv_icmp_ge (tgt := 206) hx hb dX10_close_182 rfl (fun hc => ?_) (fun hc => ?_)
      · have hf := b_p hf hc
        exact hx179  σ _ _ _  hf (lv_sub hl [0] rfl) hP hS
      · have hf := b_n hf hc
        refine lv_aload_n hx hb dX10_close_185 rfl (lv_at hl 0 rfl) ?_
        refine x_get (k := 500) (n := 0) hx hb hts i_X10 hown hK hP (mk_500 h01) rfl rfl 2 (by decide) rfl k_17 (v := .ref (ad 503 0)) rfl dX10_close_186 ?_
        refine lv_bipush (v := (17 : Int32)) hx hb dX10_close_189 rfl ?_
        refine lv_iload_n hx hb dX10_close_191 rfl (lv_at hl 1 rfl) ?_
        refine lv_imul hx hb dX10_close_192 ?_
        obtain ⟨g20, hf⟩ := gd_e hf
        refine x_zald (k := 503) (n := 0) hx hb hK hP (mk_503 h01) rfl g20 dX10_close_193 ?_
        refine lv_if_eq (tgt := 200) hx hb dX10_close_194 rfl (fun hc => ?_) (fun hc => ?_)
        · have hf := b_p hf hc
          refine lv_iinc (v := (v1 + (1 : Int32))) (lv' := [(1, .int (v1 + (1 : Int32))), (0, .ref (ad 500 0))]) hx hb dX10_close_200 hl (k := 1) rfl rfl (by decide) rfl (fun ls hl => ?_)
          refine lv_goto (tgt := 179) hx hb dX10_close_203 rfl ?_
          exact ih179 (v1 + (1 : Int32)) σ _ _ _  hf (lv_sub hl [1, 0] rfl) hP hS
        · have hf := b_n hf hc
          refine lv_bipush (v := (-5 : Int32)) hx hb dX10_close_197 rfl ?_
          have hf := Option.some.inj hf
          exact x_iret hx hb hr hlocks hK hP hS (congrArg Prod.fst hf) (congrArg Prod.snd hf) dX10_close_199
  have l208 : ∀ (kx208 : PS → Option (Int32 × PS)), (∀ (σ : PS) (H : Heap) (locs : List Loc) (ls : Array Slot), kx208 σ = some (res, σz) → lv_has ls 4 [(0, .ref (ad 500 0))] → va_P G vwCl (wld ad ca σ LM) H → va_S A s.heap H locs → W p l e (headSpec wsX10_close ({ frames := 0, cells := 0, slots := 0, locals := 0 })).room s m (([.ref (ad 500 0)] : List Value).toArray) below meth c H locs 0 0 (MQ below (va_Qi (fun r' u => r' = res ∧ u = σz) (ctB G ad ca LM) A) (([.ref (ad 500 0)] : List Value).toArray) s 0 0 A) (F0 m 230 ls [])) → ∀ (n208 : Nat) (v1 : Int32) (σ : PS) (H : Heap) (locs : List Loc) (ls : Array Slot), X10_close_l208  kx208 n208 v1 σ = some (res, σz) → lv_has ls 4 [(0, .ref (ad 500 0)), (1, .int v1)] → va_P G vwCl (wld ad ca σ LM) H → va_S A s.heap H locs → W p l e (headSpec wsX10_close ({ frames := 0, cells := 0, slots := 0, locals := 0 })).room s m (([.ref (ad 500 0)] : List Value).toArray) below meth c H locs 0 0 (MQ below (va_Qi (fun r' u => r' = res ∧ u = σz) (ctB G ad ca LM) A) (([.ref (ad 500 0)] : List Value).toArray) s 0 0 A) (F0 m 208 ls []) := by
    intro kx208 hx208 n208
    induction n208 with
    | zero =>
      intro v1 σ H locs ls hf
      exact absurd hf (by simp [X10_close_l208])
    | succ n208 ih208 =>
      intro v1 σ H locs ls hf hl hP hS
      rw [X10_close_l208.eq_2] at hf
      refine lv_iload_n hx hb dX10_close_208 rfl (lv_at hl 1 rfl) ?_
      refine lv_bipush (v := (16 : Int32)) hx hb dX10_close_209 rfl ?_
      refine lv_icmp_ge (tgt := 230) hx hb dX10_close_211 rfl (fun hc => ?_) (fun hc => ?_)
      · have hf := b_p hf hc
        exact hx208  σ _ _ _  hf (lv_sub hl [0] rfl) hP hS
      · have hf := b_n hf hc
        refine lv_aload_n hx hb dX10_close_214 rfl (lv_at hl 0 rfl) ?_
        refine x_get (k := 500) (n := 0) hx hb hts i_X10 hown hK hP (mk_500 h01) rfl rfl 2 (by decide) rfl k_17 (v := .ref (ad 503 0)) rfl dX10_close_215 ?_
        refine lv_bipush (v := (17 : Int32)) hx hb dX10_close_218 rfl ?_
        refine lv_iload_n hx hb dX10_close_220 rfl (lv_at hl 1 rfl) ?_
        refine lv_imul hx hb dX10_close_221 ?_
        refine lv_iconst (v := (1 : Int32)) hx hb dX10_close_222 rfl ?_
        obtain ⟨g21, hf⟩ := gd_e hf
        refine x_zast (k := 503) (n := 0) hx hb hK hD hP hS (mk_503 h01) rfl (by decide) g21 dX10_close_223 (fun H locs hP hS => ?_)
        obtain ⟨σ22, e_σ22, hf⟩ := nm_i hf
        have hP : va_P G vwCl (wld ad ca σ22 LM) H := by rw [e_σ22]; exact hP
        refine lv_iinc (v := (v1 + (1 : Int32))) (lv' := [(1, .int (v1 + (1 : Int32))), (0, .ref (ad 500 0))]) hx hb dX10_close_224 hl (k := 1) rfl rfl (by decide) rfl (fun ls hl => ?_)
        refine lv_goto (tgt := 208) hx hb dX10_close_227 rfl ?_
        exact ih208 (v1 + (1 : Int32)) σ22 _ _ _  hf (lv_sub hl [1, 0] rfl) hP hS
  have c230 : ∀ (σ : PS) (H : Heap) (locs : List Loc) (ls : Array Slot), X10_close_c230   σ = some (res, σz) → lv_has ls 4 [(0, .ref (ad 500 0))] → va_P G vwCl (wld ad ca σ LM) H → va_S A s.heap H locs → W p l e (headSpec wsX10_close ({ frames := 0, cells := 0, slots := 0, locals := 0 })).room s m (([.ref (ad 500 0)] : List Value).toArray) below meth c H locs 0 0 (MQ below (va_Qi (fun r' u => r' = res ∧ u = σz) (ctB G ad ca LM) A) (([.ref (ad 500 0)] : List Value).toArray) s 0 0 A) (F0 m 230 ls []) := by
    intro σ H locs ls hf hl hP hS
    unfold X10_close_c230 at hf
    refine lv_aload_n hx hb dX10_close_230 rfl (lv_at hl 0 rfl) ?_
    refine lv_iconst (v := (1 : Int32)) hx hb dX10_close_231 rfl ?_
    refine x_putI (k := 500) (n := 0) hx hb hts i_X10 tyX10 tyX10_ok nmX10 hown hK hD hP hS (mk_500 h01) rfl rfl 4 (by decide) rfl k_110 rfl rfl rfl rfl dX10_close_232 (fun H locs hP hS => ?_)
    obtain ⟨σ23, e_σ23, hf⟩ := nm_i hf
    have hP : va_P G vwCl (wld ad ca σ23 LM) H := by rw [e_σ23]; exact hP
    refine lv_iconst (v := (1 : Int32)) hx hb dX10_close_235 rfl ?_
    have hf := Option.some.inj hf
    exact x_iret hx hb hr hlocks hK hP hS (congrArg Prod.fst hf) (congrArg Prod.snd hf) dX10_close_236
  have c206 : ∀ (σ : PS) (H : Heap) (locs : List Loc) (ls : Array Slot), X10_close_c206   σ = some (res, σz) → lv_has ls 4 [(0, .ref (ad 500 0))] → va_P G vwCl (wld ad ca σ LM) H → va_S A s.heap H locs → W p l e (headSpec wsX10_close ({ frames := 0, cells := 0, slots := 0, locals := 0 })).room s m (([.ref (ad 500 0)] : List Value).toArray) below meth c H locs 0 0 (MQ below (va_Qi (fun r' u => r' = res ∧ u = σz) (ctB G ad ca LM) A) (([.ref (ad 500 0)] : List Value).toArray) s 0 0 A) (F0 m 206 ls []) := by
    intro σ H locs ls hf hl hP hS
    unfold X10_close_c206 at hf
    refine lv_iconst (v := (0 : Int32)) hx hb dX10_close_206 rfl ?_
    refine lv_istore_n (lv' := [(1, .int (0 : Int32)), (0, .ref (ad 500 0))]) hx hb dX10_close_207 rfl hl (by decide) rfl (fun ls hl => ?_)
    exact l208 _ c230 _ (0 : Int32) σ _ _ _  hf (lv_sub hl [1, 0] rfl) hP hS
  have c177 : ∀ (σ : PS) (H : Heap) (locs : List Loc) (ls : Array Slot), X10_close_c177   σ = some (res, σz) → lv_has ls 4 [(0, .ref (ad 500 0))] → va_P G vwCl (wld ad ca σ LM) H → va_S A s.heap H locs → W p l e (headSpec wsX10_close ({ frames := 0, cells := 0, slots := 0, locals := 0 })).room s m (([.ref (ad 500 0)] : List Value).toArray) below meth c H locs 0 0 (MQ below (va_Qi (fun r' u => r' = res ∧ u = σz) (ctB G ad ca LM) A) (([.ref (ad 500 0)] : List Value).toArray) s 0 0 A) (F0 m 177 ls []) := by
    intro σ H locs ls hf hl hP hS
    unfold X10_close_c177 at hf
    refine lv_iconst (v := (0 : Int32)) hx hb dX10_close_177 rfl ?_
    refine lv_istore_n (lv' := [(1, .int (0 : Int32)), (0, .ref (ad 500 0))]) hx hb dX10_close_178 rfl hl (by decide) rfl (fun ls hl => ?_)
    exact l179 _ c206 _ (0 : Int32) σ _ _ _  hf (lv_sub hl [1, 0] rfl) hP hS
  have c77 : ∀ (σ : PS) (H : Heap) (locs : List Loc) (ls : Array Slot), X10_close_c77   σ = some (res, σz) → lv_has ls 4 [(0, .ref (ad 500 0))] → va_P G vwCl (wld ad ca σ LM) H → va_S A s.heap H locs → W p l e (headSpec wsX10_close ({ frames := 0, cells := 0, slots := 0, locals := 0 })).room s m (([.ref (ad 500 0)] : List Value).toArray) below meth c H locs 0 0 (MQ below (va_Qi (fun r' u => r' = res ∧ u = σz) (ctB G ad ca LM) A) (([.ref (ad 500 0)] : List Value).toArray) s 0 0 A) (F0 m 77 ls []) := by
    intro σ H locs ls hf hl hP hS
    unfold X10_close_c77 at hf
    refine lv_iconst (v := (0 : Int32)) hx hb dX10_close_77 rfl ?_
    refine lv_istore_n (lv' := [(1, .int (0 : Int32)), (0, .ref (ad 500 0))]) hx hb dX10_close_78 rfl hl (by decide) rfl (fun ls hl => ?_)
    exact l79 _ c177 _ (0 : Int32) σ _ _ _  hf (lv_sub hl [1, 0] rfl) hP hS
  have c37 : ∀ (σ : PS) (H : Heap) (locs : List Loc) (ls : Array Slot), X10_close_c37   σ = some (res, σz) → lv_has ls 4 [(0, .ref (ad 500 0))] → va_P G vwCl (wld ad ca σ LM) H → va_S A s.heap H locs → W p l e (headSpec wsX10_close ({ frames := 0, cells := 0, slots := 0, locals := 0 })).room s m (([.ref (ad 500 0)] : List Value).toArray) below meth c H locs 0 0 (MQ below (va_Qi (fun r' u => r' = res ∧ u = σz) (ctB G ad ca LM) A) (([.ref (ad 500 0)] : List Value).toArray) s 0 0 A) (F0 m 37 ls []) := by
    intro σ H locs ls hf hl hP hS
    unfold X10_close_c37 at hf
    refine lv_iconst (v := (0 : Int32)) hx hb dX10_close_37 rfl ?_
    refine lv_istore_n (lv' := [(1, .int (0 : Int32)), (0, .ref (ad 500 0))]) hx hb dX10_close_38 rfl hl (by decide) rfl (fun ls hl => ?_)
    exact l39 _ c77 _ (0 : Int32) σ _ _ _  hf (lv_sub hl [1, 0] rfl) hP hS
  refine lv_aload_n hx hb dX10_close_0 rfl (lv_at hl 0 rfl) ?_
  refine x_get (k := 500) (n := 0) hx hb hts i_X10 hown hK hP (mk_500 h01) rfl rfl 4 (by decide) rfl k_110 (v := .int (gI σ 500 0 4)) rfl dX10_close_1 ?_
  refine lv_if_eq (tgt := 10) hx hb dX10_close_4 rfl (fun hc => ?_) (fun hc => ?_)
  · have hf := b_p hf hc
    refine lv_iconst (v := (0 : Int32)) hx hb dX10_close_10 rfl ?_
    refine lv_istore_n (lv' := [(1, .int (0 : Int32)), (0, .ref (ad 500 0))]) hx hb dX10_close_11 rfl hl (by decide) rfl (fun ls hl => ?_)
    exact l12 _ c37 _ (0 : Int32) σ _ _ _  hf (lv_sub hl [1, 0] rfl) hP hS
  · have hf := b_n hf hc
    refine lv_bipush (v := (-3 : Int32)) hx hb dX10_close_7 rfl ?_
    have hf := Option.some.inj hf
    exact x_iret hx hb hr hlocks hK hP hS (congrArg Prod.fst hf) (congrArg Prod.snd hf) dX10_close_9
end
