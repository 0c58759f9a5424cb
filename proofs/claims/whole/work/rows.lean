section
-- ===== PART A: goes FIRST, ahead of the names: the tables' words, and 'selects' of the private methods out of them =====
/-- a private method of a class that the tables say can be made, by its rows of tables_1 -/
def lw_okq (q : MethodName × Nat) : Prop := (q.1.cls ≠ "java/lang/invoke/MethodHandle" ∧ q.1.cls ≠ "java/lang/invoke/VarHandle") ∧ Cond.instantiable q.1.cls q.2 ∈ tables_1 ∧ Cond.privateMethod q.1 ∈ tables_1 ∧ Cond.instanceMethod q.1 ∈ tables_1
theorem lw_p0 : lw_okq (⟨"SplitClasses", "refineAside", "(I)V"⟩, 8) := ⟨⟨by decide +kernel, by decide +kernel⟩, List.mem_of_getElem? (i := 16) (by decide +kernel), List.mem_of_getElem? (i := 261) (by decide +kernel), List.mem_of_getElem? (i := 262) (by decide +kernel)⟩
theorem lw_p1 : lw_okq (⟨"SplitClasses$Row", "openPlace", "(I)V"⟩, 2) := ⟨⟨by decide +kernel, by decide +kernel⟩, List.mem_of_getElem? (i := 30) (by decide +kernel), List.mem_of_getElem? (i := 275) (by decide +kernel), List.mem_of_getElem? (i := 276) (by decide +kernel)⟩
theorem lw_p2 : lw_okq (⟨"SplitClasses$Refiner", "settle", "(LSplitClasses$State;LSplitClasses$Row;Z)V"⟩, 1) := ⟨⟨by decide +kernel, by decide +kernel⟩, List.mem_of_getElem? (i := 178) (by decide +kernel), List.mem_of_getElem? (i := 279) (by decide +kernel), List.mem_of_getElem? (i := 280) (by decide +kernel)⟩
theorem lw_p3 : lw_okq (⟨"SplitClasses$Refiner", "cutByLetters", "(LSplitClasses$State;LSplitClasses$Row;)V"⟩, 1) := ⟨⟨by decide +kernel, by decide +kernel⟩, List.mem_of_getElem? (i := 178) (by decide +kernel), List.mem_of_getElem? (i := 290) (by decide +kernel), List.mem_of_getElem? (i := 291) (by decide +kernel)⟩
theorem lw_p4 : lw_okq (⟨"SplitClasses$Refiner", "cutByNearCounts", "(LSplitClasses$State;LSplitClasses$Row;)V"⟩, 1) := ⟨⟨by decide +kernel, by decide +kernel⟩, List.mem_of_getElem? (i := 178) (by decide +kernel), List.mem_of_getElem? (i := 310) (by decide +kernel), List.mem_of_getElem? (i := 311) (by decide +kernel)⟩
theorem lw_p5 : lw_okq (⟨"SplitClasses$Refiner", "cutByAll", "(LSplitClasses$State;LSplitClasses$Row;I)V"⟩, 1) := ⟨⟨by decide +kernel, by decide +kernel⟩, List.mem_of_getElem? (i := 178) (by decide +kernel), List.mem_of_getElem? (i := 330) (by decide +kernel), List.mem_of_getElem? (i := 331) (by decide +kernel)⟩
theorem lw_p6 : lw_okq (⟨"SplitClasses$State", "itemsWithColumn", "(I)I"⟩, 8) := ⟨⟨by decide +kernel, by decide +kernel⟩, List.mem_of_getElem? (i := 24) (by decide +kernel), List.mem_of_getElem? (i := 338) (by decide +kernel), List.mem_of_getElem? (i := 339) (by decide +kernel)⟩
theorem lw_p7 : lw_okq (⟨"SplitClasses$Row", "closePlace", "(I)V"⟩, 2) := ⟨⟨by decide +kernel, by decide +kernel⟩, List.mem_of_getElem? (i := 30) (by decide +kernel), List.mem_of_getElem? (i := 356) (by decide +kernel), List.mem_of_getElem? (i := 357) (by decide +kernel)⟩
theorem lw_p8 : lw_okq (⟨"SplitClasses$Walk", "nearAhead", "(LSplitClasses$State;I)I"⟩, 3) := ⟨⟨by decide +kernel, by decide +kernel⟩, List.mem_of_getElem? (i := 190) (by decide +kernel), List.mem_of_getElem? (i := 365) (by decide +kernel), List.mem_of_getElem? (i := 366) (by decide +kernel)⟩
theorem lw_p9 : lw_okq (⟨"SplitClasses$Walk", "lastOf", "(II)I"⟩, 3) := ⟨⟨by decide +kernel, by decide +kernel⟩, List.mem_of_getElem? (i := 190) (by decide +kernel), List.mem_of_getElem? (i := 369) (by decide +kernel), List.mem_of_getElem? (i := 370) (by decide +kernel)⟩
theorem lw_p10 : lw_okq (⟨"SplitClasses", "refusalOfSet", "(III)I"⟩, 8) := ⟨⟨by decide +kernel, by decide +kernel⟩, List.mem_of_getElem? (i := 16) (by decide +kernel), List.mem_of_getElem? (i := 411) (by decide +kernel), List.mem_of_getElem? (i := 412) (by decide +kernel)⟩
theorem lw_p11 : lw_okq (⟨"SplitClasses", "splitAndCount", "(I)I"⟩, 8) := ⟨⟨by decide +kernel, by decide +kernel⟩, List.mem_of_getElem? (i := 16) (by decide +kernel), List.mem_of_getElem? (i := 498) (by decide +kernel), List.mem_of_getElem? (i := 499) (by decide +kernel)⟩
theorem lw_p12 : lw_okq (⟨"SplitClasses$Draws", "draw", "(I)I"⟩, 1) := ⟨⟨by decide +kernel, by decide +kernel⟩, List.mem_of_getElem? (i := 211) (by decide +kernel), List.mem_of_getElem? (i := 538) (by decide +kernel), List.mem_of_getElem? (i := 539) (by decide +kernel)⟩
theorem lw_p13 : lw_okq (⟨"SplitClasses$Draws", "changeEdge", "(LSplitClasses$State;)V"⟩, 1) := ⟨⟨by decide +kernel, by decide +kernel⟩, List.mem_of_getElem? (i := 211) (by decide +kernel), List.mem_of_getElem? (i := 546) (by decide +kernel), List.mem_of_getElem? (i := 547) (by decide +kernel)⟩
theorem lw_p14 : lw_okq (⟨"SplitClasses$Draws", "changeColumns", "(LSplitClasses$State;)V"⟩, 1) := ⟨⟨by decide +kernel, by decide +kernel⟩, List.mem_of_getElem? (i := 211) (by decide +kernel), List.mem_of_getElem? (i := 551) (by decide +kernel), List.mem_of_getElem? (i := 552) (by decide +kernel)⟩
theorem lw_p15 : lw_okq (⟨"SplitClasses$Draws", "changeMachine", "(LSplitClasses$State;)V"⟩, 1) := ⟨⟨by decide +kernel, by decide +kernel⟩, List.mem_of_getElem? (i := 211) (by decide +kernel), List.mem_of_getElem? (i := 556) (by decide +kernel), List.mem_of_getElem? (i := 557) (by decide +kernel)⟩
def lw_privs_1 : List (MethodName × Nat) := [(⟨"SplitClasses", "refineAside", "(I)V"⟩, 8), (⟨"SplitClasses$Row", "openPlace", "(I)V"⟩, 2), (⟨"SplitClasses$Refiner", "settle", "(LSplitClasses$State;LSplitClasses$Row;Z)V"⟩, 1), (⟨"SplitClasses$Refiner", "cutByLetters", "(LSplitClasses$State;LSplitClasses$Row;)V"⟩, 1), (⟨"SplitClasses$Refiner", "cutByNearCounts", "(LSplitClasses$State;LSplitClasses$Row;)V"⟩, 1), (⟨"SplitClasses$Refiner", "cutByAll", "(LSplitClasses$State;LSplitClasses$Row;I)V"⟩, 1), (⟨"SplitClasses$State", "itemsWithColumn", "(I)I"⟩, 8), (⟨"SplitClasses$Row", "closePlace", "(I)V"⟩, 2), (⟨"SplitClasses$Walk", "nearAhead", "(LSplitClasses$State;I)I"⟩, 3), (⟨"SplitClasses$Walk", "lastOf", "(II)I"⟩, 3), (⟨"SplitClasses", "refusalOfSet", "(III)I"⟩, 8), (⟨"SplitClasses", "splitAndCount", "(I)I"⟩, 8), (⟨"SplitClasses$Draws", "draw", "(I)I"⟩, 1), (⟨"SplitClasses$Draws", "changeEdge", "(LSplitClasses$State;)V"⟩, 1), (⟨"SplitClasses$Draws", "changeColumns", "(LSplitClasses$State;)V"⟩, 1), (⟨"SplitClasses$Draws", "changeMachine", "(LSplitClasses$State;)V"⟩, 1)]
theorem lw_r1 : ∀ q ∈ lw_privs_1, lw_okq q := List.forall_mem_cons.mpr ⟨lw_p0, List.forall_mem_cons.mpr ⟨lw_p1, List.forall_mem_cons.mpr ⟨lw_p2, List.forall_mem_cons.mpr ⟨lw_p3, List.forall_mem_cons.mpr ⟨lw_p4, List.forall_mem_cons.mpr ⟨lw_p5, List.forall_mem_cons.mpr ⟨lw_p6, List.forall_mem_cons.mpr ⟨lw_p7, List.forall_mem_cons.mpr ⟨lw_p8, List.forall_mem_cons.mpr ⟨lw_p9, List.forall_mem_cons.mpr ⟨lw_p10, List.forall_mem_cons.mpr ⟨lw_p11, List.forall_mem_cons.mpr ⟨lw_p12, List.forall_mem_cons.mpr ⟨lw_p13, List.forall_mem_cons.mpr ⟨lw_p14, List.forall_mem_cons.mpr ⟨lw_p15, fun _ h => absurd h List.not_mem_nil⟩⟩⟩⟩⟩⟩⟩⟩⟩⟩⟩⟩⟩⟩⟩⟩
theorem lw_p16 : lw_okq (⟨"SplitClassesModel", "lays", "(I)V"⟩, 17) := ⟨⟨by decide +kernel, by decide +kernel⟩, List.mem_of_getElem? (i := 599) (by decide +kernel), List.mem_of_getElem? (i := 605) (by decide +kernel), List.mem_of_getElem? (i := 606) (by decide +kernel)⟩
theorem lw_p17 : lw_okq (⟨"SplitClassesModel", "askedBy", "(III)I"⟩, 17) := ⟨⟨by decide +kernel, by decide +kernel⟩, List.mem_of_getElem? (i := 599) (by decide +kernel), List.mem_of_getElem? (i := 666) (by decide +kernel), List.mem_of_getElem? (i := 667) (by decide +kernel)⟩
theorem lw_p18 : lw_okq (⟨"SplitClassesModel", "classes", "([II)I"⟩, 17) := ⟨⟨by decide +kernel, by decide +kernel⟩, List.mem_of_getElem? (i := 599) (by decide +kernel), List.mem_of_getElem? (i := 670) (by decide +kernel), List.mem_of_getElem? (i := 671) (by decide +kernel)⟩
theorem lw_p19 : lw_okq (⟨"SplitClassesModel", "isItem", "(I)Z"⟩, 17) := ⟨⟨by decide +kernel, by decide +kernel⟩, List.mem_of_getElem? (i := 599) (by decide +kernel), List.mem_of_getElem? (i := 674) (by decide +kernel), List.mem_of_getElem? (i := 675) (by decide +kernel)⟩
theorem lw_p20 : lw_okq (⟨"SplitClassesModel", "setOf", "(III)I"⟩, 17) := ⟨⟨by decide +kernel, by decide +kernel⟩, List.mem_of_getElem? (i := 599) (by decide +kernel), List.mem_of_getElem? (i := 683) (by decide +kernel), List.mem_of_getElem? (i := 684) (by decide +kernel)⟩
theorem lw_p21 : lw_okq (⟨"SplitClassesModel", "columnSet", "(I)I"⟩, 17) := ⟨⟨by decide +kernel, by decide +kernel⟩, List.mem_of_getElem? (i := 599) (by decide +kernel), List.mem_of_getElem? (i := 687) (by decide +kernel), List.mem_of_getElem? (i := 688) (by decide +kernel)⟩
theorem lw_p22 : lw_okq (⟨"SplitClassesModel", "leadsTo", "(II)I"⟩, 17) := ⟨⟨by decide +kernel, by decide +kernel⟩, List.mem_of_getElem? (i := 599) (by decide +kernel), List.mem_of_getElem? (i := 694) (by decide +kernel), List.mem_of_getElem? (i := 695) (by decide +kernel)⟩
theorem lw_p23 : lw_okq (⟨"SplitClassesModel", "atLeast", "(II)I"⟩, 17) := ⟨⟨by decide +kernel, by decide +kernel⟩, List.mem_of_getElem? (i := 599) (by decide +kernel), List.mem_of_getElem? (i := 698) (by decide +kernel), List.mem_of_getElem? (i := 699) (by decide +kernel)⟩
theorem lw_p24 : lw_okq (⟨"SplitClassesModel", "membersOf", "([III)I"⟩, 17) := ⟨⟨by decide +kernel, by decide +kernel⟩, List.mem_of_getElem? (i := 599) (by decide +kernel), List.mem_of_getElem? (i := 702) (by decide +kernel), List.mem_of_getElem? (i := 703) (by decide +kernel)⟩
theorem lw_p25 : lw_okq (⟨"SplitClassesModel", "ofItself", "(I)V"⟩, 17) := ⟨⟨by decide +kernel, by decide +kernel⟩, List.mem_of_getElem? (i := 599) (by decide +kernel), List.mem_of_getElem? (i := 713) (by decide +kernel), List.mem_of_getElem? (i := 714) (by decide +kernel)⟩
theorem lw_p26 : lw_okq (⟨"SplitClassesModel", "refines", "([III)V"⟩, 17) := ⟨⟨by decide +kernel, by decide +kernel⟩, List.mem_of_getElem? (i := 599) (by decide +kernel), List.mem_of_getElem? (i := 717) (by decide +kernel), List.mem_of_getElem? (i := 718) (by decide +kernel)⟩
theorem lw_p27 : lw_okq (⟨"SplitClassesModel", "tellsApart", "([III)V"⟩, 17) := ⟨⟨by decide +kernel, by decide +kernel⟩, List.mem_of_getElem? (i := 599) (by decide +kernel), List.mem_of_getElem? (i := 721) (by decide +kernel), List.mem_of_getElem? (i := 722) (by decide +kernel)⟩
theorem lw_p28 : lw_okq (⟨"SplitClassesModel", "isOneMore", "([IIIII)Z"⟩, 17) := ⟨⟨by decide +kernel, by decide +kernel⟩, List.mem_of_getElem? (i := 599) (by decide +kernel), List.mem_of_getElem? (i := 725) (by decide +kernel), List.mem_of_getElem? (i := 726) (by decide +kernel)⟩
theorem lw_p29 : lw_okq (⟨"SplitClassesModel", "arranges", "([II)V"⟩, 17) := ⟨⟨by decide +kernel, by decide +kernel⟩, List.mem_of_getElem? (i := 599) (by decide +kernel), List.mem_of_getElem? (i := 732) (by decide +kernel), List.mem_of_getElem? (i := 733) (by decide +kernel)⟩
theorem lw_p30 : lw_okq (⟨"SplitClassesModel", "gives", "([IIII)V"⟩, 17) := ⟨⟨by decide +kernel, by decide +kernel⟩, List.mem_of_getElem? (i := 599) (by decide +kernel), List.mem_of_getElem? (i := 736) (by decide +kernel), List.mem_of_getElem? (i := 737) (by decide +kernel)⟩
theorem lw_p31 : lw_okq (⟨"SplitClassesModel", "splits", "([III)V"⟩, 17) := ⟨⟨by decide +kernel, by decide +kernel⟩, List.mem_of_getElem? (i := 599) (by decide +kernel), List.mem_of_getElem? (i := 740) (by decide +kernel), List.mem_of_getElem? (i := 741) (by decide +kernel)⟩
def lw_privs_2 : List (MethodName × Nat) := [(⟨"SplitClassesModel", "lays", "(I)V"⟩, 17), (⟨"SplitClassesModel", "askedBy", "(III)I"⟩, 17), (⟨"SplitClassesModel", "classes", "([II)I"⟩, 17), (⟨"SplitClassesModel", "isItem", "(I)Z"⟩, 17), (⟨"SplitClassesModel", "setOf", "(III)I"⟩, 17), (⟨"SplitClassesModel", "columnSet", "(I)I"⟩, 17), (⟨"SplitClassesModel", "leadsTo", "(II)I"⟩, 17), (⟨"SplitClassesModel", "atLeast", "(II)I"⟩, 17), (⟨"SplitClassesModel", "membersOf", "([III)I"⟩, 17), (⟨"SplitClassesModel", "ofItself", "(I)V"⟩, 17), (⟨"SplitClassesModel", "refines", "([III)V"⟩, 17), (⟨"SplitClassesModel", "tellsApart", "([III)V"⟩, 17), (⟨"SplitClassesModel", "isOneMore", "([IIIII)Z"⟩, 17), (⟨"SplitClassesModel", "arranges", "([II)V"⟩, 17), (⟨"SplitClassesModel", "gives", "([IIII)V"⟩, 17), (⟨"SplitClassesModel", "splits", "([III)V"⟩, 17)]
theorem lw_r2 : ∀ q ∈ lw_privs_2, lw_okq q := List.forall_mem_cons.mpr ⟨lw_p16, List.forall_mem_cons.mpr ⟨lw_p17, List.forall_mem_cons.mpr ⟨lw_p18, List.forall_mem_cons.mpr ⟨lw_p19, List.forall_mem_cons.mpr ⟨lw_p20, List.forall_mem_cons.mpr ⟨lw_p21, List.forall_mem_cons.mpr ⟨lw_p22, List.forall_mem_cons.mpr ⟨lw_p23, List.forall_mem_cons.mpr ⟨lw_p24, List.forall_mem_cons.mpr ⟨lw_p25, List.forall_mem_cons.mpr ⟨lw_p26, List.forall_mem_cons.mpr ⟨lw_p27, List.forall_mem_cons.mpr ⟨lw_p28, List.forall_mem_cons.mpr ⟨lw_p29, List.forall_mem_cons.mpr ⟨lw_p30, List.forall_mem_cons.mpr ⟨lw_p31, fun _ h => absurd h List.not_mem_nil⟩⟩⟩⟩⟩⟩⟩⟩⟩⟩⟩⟩⟩⟩⟩⟩
theorem lw_p32 : lw_okq (⟨"SplitClassesModel", "searches", "(I)V"⟩, 17) := ⟨⟨by decide +kernel, by decide +kernel⟩, List.mem_of_getElem? (i := 599) (by decide +kernel), List.mem_of_getElem? (i := 752) (by decide +kernel), List.mem_of_getElem? (i := 753) (by decide +kernel)⟩
theorem lw_p33 : lw_okq (⟨"SplitClassesModel", "leastOf", "(I)I"⟩, 17) := ⟨⟨by decide +kernel, by decide +kernel⟩, List.mem_of_getElem? (i := 599) (by decide +kernel), List.mem_of_getElem? (i := 756) (by decide +kernel), List.mem_of_getElem? (i := 757) (by decide +kernel)⟩
theorem lw_p34 : lw_okq (⟨"SplitClassesModel", "edgesNow", "()I"⟩, 17) := ⟨⟨by decide +kernel, by decide +kernel⟩, List.mem_of_getElem? (i := 599) (by decide +kernel), List.mem_of_getElem? (i := 764) (by decide +kernel), List.mem_of_getElem? (i := 765) (by decide +kernel)⟩
theorem lw_p35 : lw_okq (⟨"SplitClassesModel", "refinedMany", "(I)I"⟩, 17) := ⟨⟨by decide +kernel, by decide +kernel⟩, List.mem_of_getElem? (i := 599) (by decide +kernel), List.mem_of_getElem? (i := 768) (by decide +kernel), List.mem_of_getElem? (i := 769) (by decide +kernel)⟩
theorem lw_p36 : lw_okq (⟨"SplitClassesModel", "faultNow", "()I"⟩, 17) := ⟨⟨by decide +kernel, by decide +kernel⟩, List.mem_of_getElem? (i := 599) (by decide +kernel), List.mem_of_getElem? (i := 772) (by decide +kernel), List.mem_of_getElem? (i := 773) (by decide +kernel)⟩
theorem lw_p37 : lw_okq (⟨"SplitClassesModel", "cliqueNow", "()I"⟩, 17) := ⟨⟨by decide +kernel, by decide +kernel⟩, List.mem_of_getElem? (i := 599) (by decide +kernel), List.mem_of_getElem? (i := 776) (by decide +kernel), List.mem_of_getElem? (i := 777) (by decide +kernel)⟩
theorem lw_p38 : lw_okq (⟨"SplitClassesModel", "wrongNow", "()I"⟩, 17) := ⟨⟨by decide +kernel, by decide +kernel⟩, List.mem_of_getElem? (i := 599) (by decide +kernel), List.mem_of_getElem? (i := 780) (by decide +kernel), List.mem_of_getElem? (i := 781) (by decide +kernel)⟩
theorem lw_p39 : lw_okq (⟨"SplitClassesModel", "notes", "()V"⟩, 17) := ⟨⟨by decide +kernel, by decide +kernel⟩, List.mem_of_getElem? (i := 599) (by decide +kernel), List.mem_of_getElem? (i := 796) (by decide +kernel), List.mem_of_getElem? (i := 797) (by decide +kernel)⟩
theorem lw_p40 : lw_okq (⟨"SplitClassesModel", "turnsEdge", "(II)V"⟩, 17) := ⟨⟨by decide +kernel, by decide +kernel⟩, List.mem_of_getElem? (i := 599) (by decide +kernel), List.mem_of_getElem? (i := 804) (by decide +kernel), List.mem_of_getElem? (i := 805) (by decide +kernel)⟩
theorem lw_p41 : lw_okq (⟨"SplitClassesModel", "isSet", "(I)Z"⟩, 17) := ⟨⟨by decide +kernel, by decide +kernel⟩, List.mem_of_getElem? (i := 599) (by decide +kernel), List.mem_of_getElem? (i := 824) (by decide +kernel), List.mem_of_getElem? (i := 825) (by decide +kernel)⟩
theorem lw_p42 : lw_okq (⟨"SplitClassesModel", "splitsNow", "(I)I"⟩, 17) := ⟨⟨by decide +kernel, by decide +kernel⟩, List.mem_of_getElem? (i := 599) (by decide +kernel), List.mem_of_getElem? (i := 836) (by decide +kernel), List.mem_of_getElem? (i := 837) (by decide +kernel)⟩
theorem lw_p43 : lw_okq (⟨"SplitClassesModel", "driftsOnce", "()V"⟩, 17) := ⟨⟨by decide +kernel, by decide +kernel⟩, List.mem_of_getElem? (i := 599) (by decide +kernel), List.mem_of_getElem? (i := 860) (by decide +kernel), List.mem_of_getElem? (i := 861) (by decide +kernel)⟩
theorem lw_p44 : lw_okq (⟨"SplitClassesModel", "draws", "(I)I"⟩, 17) := ⟨⟨by decide +kernel, by decide +kernel⟩, List.mem_of_getElem? (i := 599) (by decide +kernel), List.mem_of_getElem? (i := 864) (by decide +kernel), List.mem_of_getElem? (i := 865) (by decide +kernel)⟩
def lw_privs_3 : List (MethodName × Nat) := [(⟨"SplitClassesModel", "searches", "(I)V"⟩, 17), (⟨"SplitClassesModel", "leastOf", "(I)I"⟩, 17), (⟨"SplitClassesModel", "edgesNow", "()I"⟩, 17), (⟨"SplitClassesModel", "refinedMany", "(I)I"⟩, 17), (⟨"SplitClassesModel", "faultNow", "()I"⟩, 17), (⟨"SplitClassesModel", "cliqueNow", "()I"⟩, 17), (⟨"SplitClassesModel", "wrongNow", "()I"⟩, 17), (⟨"SplitClassesModel", "notes", "()V"⟩, 17), (⟨"SplitClassesModel", "turnsEdge", "(II)V"⟩, 17), (⟨"SplitClassesModel", "isSet", "(I)Z"⟩, 17), (⟨"SplitClassesModel", "splitsNow", "(I)I"⟩, 17), (⟨"SplitClassesModel", "driftsOnce", "()V"⟩, 17), (⟨"SplitClassesModel", "draws", "(I)I"⟩, 17)]
theorem lw_r3 : ∀ q ∈ lw_privs_3, lw_okq q := List.forall_mem_cons.mpr ⟨lw_p32, List.forall_mem_cons.mpr ⟨lw_p33, List.forall_mem_cons.mpr ⟨lw_p34, List.forall_mem_cons.mpr ⟨lw_p35, List.forall_mem_cons.mpr ⟨lw_p36, List.forall_mem_cons.mpr ⟨lw_p37, List.forall_mem_cons.mpr ⟨lw_p38, List.forall_mem_cons.mpr ⟨lw_p39, List.forall_mem_cons.mpr ⟨lw_p40, List.forall_mem_cons.mpr ⟨lw_p41, List.forall_mem_cons.mpr ⟨lw_p42, List.forall_mem_cons.mpr ⟨lw_p43, List.forall_mem_cons.mpr ⟨lw_p44, fun _ h => absurd h List.not_mem_nil⟩⟩⟩⟩⟩⟩⟩⟩⟩⟩⟩⟩⟩
def lw_privs : List (MethodName × Nat) := lw_privs_1 ++ (lw_privs_2 ++ (lw_privs_3))
def lw_tbl : List Cond := k2_sels lw_privs ++ tables_1
theorem lw_privs_ok : ∀ q ∈ lw_privs, lw_okq q := by
  show ∀ q ∈ lw_privs_1 ++ (lw_privs_2 ++ (lw_privs_3)), lw_okq q
  exact List.forall_mem_append.mpr ⟨lw_r1, List.forall_mem_append.mpr ⟨lw_r2, lw_r3⟩⟩
end
section
/-! ===== BEGIN words of one list among another's, by their places ===== -/
theorem goodIn_r {big : List Cond} (ws : List Cond) (ps : List Nat) (hp : ws = ps.filterMap (fun i => big[i]?)) (h : ws.all goodWord = true) : GoodIn big ws := by
  intro w hw
  have h1 := List.all_eq_true.mp h w hw
  rw [hp] at hw
  obtain ⟨i, -, hi⟩ := List.mem_filterMap.mp hw
  have hm : w ∈ big := by first | exact List.mem_of_getElem? hi | exact List.getElem?_mem hi
  exact ⟨hm, good_of_word h1⟩
theorem goodIn_app {big a b : List Cond} (ha : GoodIn big a) (hb : GoodIn big b) : GoodIn big (a ++ b) := fun w h => (List.mem_append.mp h).elim (ha w) (hb w)
theorem goodIn_ca {big a b : List Cond} {c : Cond} (ha : GoodIn big (c :: a)) (hb : GoodIn big b) : GoodIn big (c :: (a ++ b)) := fun w h => (List.mem_cons.mp h).elim (fun e => ha w (List.mem_cons.mpr (Or.inl e))) (fun h => (List.mem_append.mp h).elim (fun h => ha w (List.mem_cons.mpr (Or.inr h))) (hb w))
theorem goodIn_sub {big ws : List Cond} (hm : ∀ w ∈ ws, w ∈ big) (h : ws.all goodWord = true) : GoodIn big ws := fun w hw => ⟨hm w hw, good_of_word (List.all_eq_true.mp h w hw)⟩
/-! ===== END ===== -/

/-! ===== BEGIN printed: names, fields, word lists, decode rows ===== -/
def RX0 : String := "SplitClasses$Book"
def TX0 : u_T := fun k => match k with
  | 0 => ("SplitClasses$Book", "entryItems", "[I", true)
  | 1 => ("SplitClasses$Book", "entryClasses", "[I", true)
  | _ => ("SplitClasses$Book", "size", "I", false)
def tyX0 : Nat → FieldType := fun k => match k with
  | 0 => .array .int
  | 1 => .array .int
  | _ => .int
abbrev wsX00 : List Cond := u_ws RX0 TX0 3
theorem nmX0 : ∀ a, a < 3 → ∀ b, b < 3 → a ≠ b → (TX0 a).2.1 ≠ (TX0 b).2.1 := by decide +kernel
theorem tyX0_ok : ∀ k, k < 3 → parseFieldDescriptor (TX0 k).2.2.1 = some (tyX0 k) := by decide +kernel
abbrev cX0_init : ByteArray := prog_2_method_1_code
def yX0_init : MethodName := ⟨RX0, "<init>", "()V"⟩
abbrev cX0_append : ByteArray := prog_2_method_2_code
def yX0_append : MethodName := ⟨RX0, "append", "(II)V"⟩
abbrev cX0_firstWrong : ByteArray := prog_2_method_3_code
def yX0_firstWrong : MethodName := ⟨RX0, "firstWrong", "(LSplitClasses$State;)I"⟩
def RX1 : String := "SplitClasses$Draws"
def TX1 : u_T := fun k => match k with
  | _ => ("SplitClasses$Draws", "state", "I", false)
def tyX1 : Nat → FieldType := fun k => match k with
  | _ => .int
abbrev wsX10 : List Cond := u_ws RX1 TX1 1
theorem nmX1 : ∀ a, a < 1 → ∀ b, b < 1 → a ≠ b → (TX1 a).2.1 ≠ (TX1 b).2.1 := by decide +kernel
theorem tyX1_ok : ∀ k, k < 1 → parseFieldDescriptor (TX1 k).2.2.1 = some (tyX1 k) := by decide +kernel
abbrev cX1_init : ByteArray := prog_3_method_1_code
def yX1_init : MethodName := ⟨RX1, "<init>", "()V"⟩
abbrev cX1_draw : ByteArray := prog_3_method_2_code
def yX1_draw : MethodName := ⟨RX1, "draw", "(I)I"⟩
abbrev cX1_change : ByteArray := prog_3_method_3_code
def yX1_change : MethodName := ⟨RX1, "change", "(LSplitClasses$State;)V"⟩
abbrev cX1_changeEdge : ByteArray := prog_3_method_4_code
def yX1_changeEdge : MethodName := ⟨RX1, "changeEdge", "(LSplitClasses$State;)V"⟩
abbrev cX1_changeColumns : ByteArray := prog_3_method_5_code
def yX1_changeColumns : MethodName := ⟨RX1, "changeColumns", "(LSplitClasses$State;)V"⟩
abbrev cX1_changeMachine : ByteArray := prog_3_method_6_code
def yX1_changeMachine : MethodName := ⟨RX1, "changeMachine", "(LSplitClasses$State;)V"⟩
def RX2 : String := "SplitClasses$History"
def TX2 : u_T := fun k => match k with
  | 0 => ("SplitClasses$History", "ring", "[LSplitClasses$State;", true)
  | 1 => ("SplitClasses$History", "next", "I", false)
  | _ => ("SplitClasses$History", "count", "I", false)
def tyX2 : Nat → FieldType := fun k => match k with
  | 0 => .array (.object "SplitClasses$State")
  | 1 => .int
  | _ => .int
abbrev wsX20 : List Cond := u_ws RX2 TX2 3
theorem nmX2 : ∀ a, a < 3 → ∀ b, b < 3 → a ≠ b → (TX2 a).2.1 ≠ (TX2 b).2.1 := by decide +kernel
theorem tyX2_ok : ∀ k, k < 3 → parseFieldDescriptor (TX2 k).2.2.1 = some (tyX2 k) := by decide +kernel
abbrev cX2_init : ByteArray := prog_4_method_1_code
def yX2_init : MethodName := ⟨RX2, "<init>", "()V"⟩
abbrev cX2_remember : ByteArray := prog_4_method_2_code
def yX2_remember : MethodName := ⟨RX2, "remember", "(LSplitClasses$State;)V"⟩
abbrev cX2_takeBack : ByteArray := prog_4_method_3_code
def yX2_takeBack : MethodName := ⟨RX2, "takeBack", "(ILSplitClasses$State;)V"⟩
def RX3 : String := "SplitClasses$Image"
def TX3 : u_T := fun k => match k with
  | 0 => ("SplitClasses$Image", "kept", "Z", false)
  | 1 => ("SplitClasses$Image", "drawState", "I", false)
  | _ => ("SplitClasses$Image", "state", "LSplitClasses$State;", true)
def tyX3 : Nat → FieldType := fun k => match k with
  | 0 => .boolean
  | 1 => .int
  | _ => .object "SplitClasses$State"
abbrev wsX30 : List Cond := u_ws RX3 TX3 3
theorem nmX3 : ∀ a, a < 3 → ∀ b, b < 3 → a ≠ b → (TX3 a).2.1 ≠ (TX3 b).2.1 := by decide +kernel
theorem tyX3_ok : ∀ k, k < 3 → parseFieldDescriptor (TX3 k).2.2.1 = some (tyX3 k) := by decide +kernel
abbrev cX3_init : ByteArray := prog_5_method_1_code
def yX3_init : MethodName := ⟨RX3, "<init>", "()V"⟩
def RX4 : String := "SplitClasses$Refiner"
def TX4 : u_T := fun k => match k with
  | _ => ("SplitClasses$Refiner", "before", "LSplitClasses$Row;", true)
def tyX4 : Nat → FieldType := fun k => match k with
  | _ => .object "SplitClasses$Row"
abbrev wsX40 : List Cond := u_ws RX4 TX4 1
theorem nmX4 : ∀ a, a < 1 → ∀ b, b < 1 → a ≠ b → (TX4 a).2.1 ≠ (TX4 b).2.1 := by decide +kernel
theorem tyX4_ok : ∀ k, k < 1 → parseFieldDescriptor (TX4 k).2.2.1 = some (tyX4 k) := by decide +kernel
abbrev cX4_init : ByteArray := prog_6_method_1_code
def yX4_init : MethodName := ⟨RX4, "<init>", "()V"⟩
abbrev cX4_refineRow : ByteArray := prog_6_method_2_code
def yX4_refineRow : MethodName := ⟨RX4, "refineRow", "(LSplitClasses$State;LSplitClasses$Row;I)V"⟩
abbrev cX4_cutByAll : ByteArray := prog_6_method_3_code
def yX4_cutByAll : MethodName := ⟨RX4, "cutByAll", "(LSplitClasses$State;LSplitClasses$Row;I)V"⟩
abbrev cX4_settle : ByteArray := prog_6_method_4_code
def yX4_settle : MethodName := ⟨RX4, "settle", "(LSplitClasses$State;LSplitClasses$Row;Z)V"⟩
abbrev cX4_cutByLetters : ByteArray := prog_6_method_5_code
def yX4_cutByLetters : MethodName := ⟨RX4, "cutByLetters", "(LSplitClasses$State;LSplitClasses$Row;)V"⟩
abbrev cX4_cutByNearCounts : ByteArray := prog_6_method_6_code
def yX4_cutByNearCounts : MethodName := ⟨RX4, "cutByNearCounts", "(LSplitClasses$State;LSplitClasses$Row;)V"⟩
abbrev cX4_shortestWordApart : ByteArray := prog_6_method_7_code
def yX4_shortestWordApart : MethodName := ⟨RX4, "shortestWordApart", "(LSplitClasses$State;LSplitClasses$Row;II)I"⟩
def RX5 : String := "SplitClasses$Row"
def TX5 : u_T := fun k => match k with
  | 0 => ("SplitClasses$Row", "sets", "[I", true)
  | _ => ("SplitClasses$Row", "count", "I", false)
def tyX5 : Nat → FieldType := fun k => match k with
  | 0 => .array .int
  | _ => .int
abbrev wsX50 : List Cond := u_ws RX5 TX5 2
theorem nmX5 : ∀ a, a < 2 → ∀ b, b < 2 → a ≠ b → (TX5 a).2.1 ≠ (TX5 b).2.1 := by decide +kernel
theorem tyX5_ok : ∀ k, k < 2 → parseFieldDescriptor (TX5 k).2.2.1 = some (tyX5 k) := by decide +kernel
abbrev cX5_init : ByteArray := prog_7_method_1_code
def yX5_init : MethodName := ⟨RX5, "<init>", "()V"⟩
abbrev cX5_gather : ByteArray := prog_7_method_2_code
def yX5_gather : MethodName := ⟨RX5, "gather", "(I)V"⟩
abbrev cX5_copyFrom : ByteArray := prog_7_method_3_code
def yX5_copyFrom : MethodName := ⟨RX5, "copyFrom", "(LSplitClasses$Row;)V"⟩
abbrev cX5_hasPlace : ByteArray := prog_7_method_4_code
def yX5_hasPlace : MethodName := ⟨RX5, "hasPlace", "(I)Z"⟩
abbrev cX5_setAt : ByteArray := prog_7_method_5_code
def yX5_setAt : MethodName := ⟨RX5, "setAt", "(I)I"⟩
abbrev cX5_placeOf : ByteArray := prog_7_method_6_code
def yX5_placeOf : MethodName := ⟨RX5, "placeOf", "(I)I"⟩
abbrev cX5_cutBy : ByteArray := prog_7_method_7_code
def yX5_cutBy : MethodName := ⟨RX5, "cutBy", "(I)V"⟩
abbrev cX5_openPlace : ByteArray := prog_7_method_8_code
def yX5_openPlace : MethodName := ⟨RX5, "openPlace", "(I)V"⟩
abbrev cX5_closePlace : ByteArray := prog_7_method_9_code
def yX5_closePlace : MethodName := ⟨RX5, "closePlace", "(I)V"⟩
abbrev cX5_mergeWithNext : ByteArray := prog_7_method_10_code
def yX5_mergeWithNext : MethodName := ⟨RX5, "mergeWithNext", "(I)V"⟩
abbrev cX5_sortByLeast : ByteArray := prog_7_method_11_code
def yX5_sortByLeast : MethodName := ⟨RX5, "sortByLeast", "()V"⟩
abbrev cX5_least : ByteArray := prog_7_method_12_code
def yX5_least : MethodName := ⟨RX5, "least", "(I)I"⟩
abbrev cX5_differingFrom : ByteArray := prog_7_method_13_code
def yX5_differingFrom : MethodName := ⟨RX5, "differingFrom", "(LSplitClasses$Row;)I"⟩
abbrev cX5_takeLeast : ByteArray := prog_7_method_14_code
def yX5_takeLeast : MethodName := ⟨RX5, "takeLeast", "()I"⟩
def RX6 : String := "SplitClasses$State"
def TX6 : u_T := fun k => match k with
  | 0 => ("SplitClasses$State", "n", "I", false)
  | 1 => ("SplitClasses$State", "letterCount", "I", false)
  | 2 => ("SplitClasses$State", "finalSet", "I", false)
  | 3 => ("SplitClasses$State", "work", "I", false)
  | 4 => ("SplitClasses$State", "columnSets", "[I", true)
  | 5 => ("SplitClasses$State", "nearSets", "[I", true)
  | 6 => ("SplitClasses$State", "leads", "[I", true)
  | _ => ("SplitClasses$State", "row", "LSplitClasses$Row;", true)
def tyX6 : Nat → FieldType := fun k => match k with
  | 0 => .int
  | 1 => .int
  | 2 => .int
  | 3 => .int
  | 4 => .array .int
  | 5 => .array .int
  | 6 => .array .int
  | _ => .object "SplitClasses$Row"
abbrev wsX60 : List Cond := u_ws RX6 TX6 8
theorem nmX6 : ∀ a, a < 8 → ∀ b, b < 8 → a ≠ b → (TX6 a).2.1 ≠ (TX6 b).2.1 := by decide +kernel
theorem tyX6_ok : ∀ k, k < 8 → parseFieldDescriptor (TX6 k).2.2.1 = some (tyX6 k) := by decide +kernel
abbrev cX6_init : ByteArray := prog_8_method_1_code
def yX6_init : MethodName := ⟨RX6, "<init>", "()V"⟩
abbrev cX6_startWith : ByteArray := prog_8_method_2_code
def yX6_startWith : MethodName := ⟨RX6, "startWith", "(I)V"⟩
abbrev cX6_copyFrom : ByteArray := prog_8_method_3_code
def yX6_copyFrom : MethodName := ⟨RX6, "copyFrom", "(LSplitClasses$State;)V"⟩
abbrev cX6_all : ByteArray := prog_8_method_4_code
def yX6_all : MethodName := ⟨RX6, "all", "()I"⟩
abbrev cX6_hasItem : ByteArray := prog_8_method_5_code
def yX6_hasItem : MethodName := ⟨RX6, "hasItem", "(I)Z"⟩
abbrev cX6_hasItemsOf : ByteArray := prog_8_method_6_code
def yX6_hasItemsOf : MethodName := ⟨RX6, "hasItemsOf", "(I)Z"⟩
abbrev cX6_hasLetter : ByteArray := prog_8_method_7_code
def yX6_hasLetter : MethodName := ⟨RX6, "hasLetter", "(I)Z"⟩
abbrev cX6_leadsTo : ByteArray := prog_8_method_8_code
def yX6_leadsTo : MethodName := ⟨RX6, "leadsTo", "(II)I"⟩
abbrev cX6_lead : ByteArray := prog_8_method_9_code
def yX6_lead : MethodName := ⟨RX6, "lead", "(III)V"⟩
abbrev cX6_takeLetters : ByteArray := prog_8_method_10_code
def yX6_takeLetters : MethodName := ⟨RX6, "takeLetters", "(I)V"⟩
abbrev cX6_isEdge : ByteArray := prog_8_method_11_code
def yX6_isEdge : MethodName := ⟨RX6, "isEdge", "(II)Z"⟩
abbrev cX6_flipEdge : ByteArray := prog_8_method_12_code
def yX6_flipEdge : MethodName := ⟨RX6, "flipEdge", "(II)V"⟩
abbrev cX6_edgeCount : ByteArray := prog_8_method_13_code
def yX6_edgeCount : MethodName := ⟨RX6, "edgeCount", "()I"⟩
abbrev cX6_setOfKind : ByteArray := prog_8_method_14_code
def yX6_setOfKind : MethodName := ⟨RX6, "setOfKind", "(LSplitClasses$Row;III)I"⟩
abbrev cX6_itemsWithColumn : ByteArray := prog_8_method_15_code
def yX6_itemsWithColumn : MethodName := ⟨RX6, "itemsWithColumn", "(I)I"⟩
abbrev cX6_itemsThatGoInto : ByteArray := prog_8_method_16_code
def yX6_itemsThatGoInto : MethodName := ⟨RX6, "itemsThatGoInto", "(II)I"⟩
abbrev cX6_itemsWithNearIn : ByteArray := prog_8_method_17_code
def yX6_itemsWithNearIn : MethodName := ⟨RX6, "itemsWithNearIn", "(II)I"⟩
def RX7 : String := "SplitClasses$Walk"
def TX7 : u_T := fun k => match k with
  | 0 => ("SplitClasses$Walk", "order", "[I", true)
  | 1 => ("SplitClasses$Walk", "row", "LSplitClasses$Row;", true)
  | _ => ("SplitClasses$Walk", "earlier", "[I", true)
def tyX7 : Nat → FieldType := fun k => match k with
  | 0 => .array .int
  | 1 => .object "SplitClasses$Row"
  | _ => .array .int
abbrev wsX70 : List Cond := u_ws RX7 TX7 3
theorem nmX7 : ∀ a, a < 3 → ∀ b, b < 3 → a ≠ b → (TX7 a).2.1 ≠ (TX7 b).2.1 := by decide +kernel
theorem tyX7_ok : ∀ k, k < 3 → parseFieldDescriptor (TX7 k).2.2.1 = some (tyX7 k) := by decide +kernel
abbrev cX7_init : ByteArray := prog_9_method_1_code
def yX7_init : MethodName := ⟨RX7, "<init>", "()V"⟩
abbrev cX7_walkFrom : ByteArray := prog_9_method_2_code
def yX7_walkFrom : MethodName := ⟨RX7, "walkFrom", "(LSplitClasses$State;I)V"⟩
abbrev cX7_nearAhead : ByteArray := prog_9_method_3_code
def yX7_nearAhead : MethodName := ⟨RX7, "nearAhead", "(LSplitClasses$State;I)I"⟩
abbrev cX7_fault : ByteArray := prog_9_method_4_code
def yX7_fault : MethodName := ⟨RX7, "fault", "(LSplitClasses$State;)I"⟩
abbrev cX7_lastOf : ByteArray := prog_9_method_5_code
def yX7_lastOf : MethodName := ⟨RX7, "lastOf", "(II)I"⟩
abbrev cX7_clique : ByteArray := prog_9_method_6_code
def yX7_clique : MethodName := ⟨RX7, "clique", "(LSplitClasses$State;)I"⟩
def RX8 : String := "SplitClasses"
def TX8 : u_T := fun k => match k with
  | 0 => ("SplitClasses", "now", "LSplitClasses$State;", true)
  | 1 => ("SplitClasses", "history", "LSplitClasses$History;", true)
  | 2 => ("SplitClasses", "book", "LSplitClasses$Book;", true)
  | 3 => ("SplitClasses", "images", "[LSplitClasses$Image;", true)
  | 4 => ("SplitClasses", "refiner", "LSplitClasses$Refiner;", true)
  | 5 => ("SplitClasses", "walk", "LSplitClasses$Walk;", true)
  | 6 => ("SplitClasses", "aside", "LSplitClasses$Row;", true)
  | _ => ("SplitClasses", "draws", "LSplitClasses$Draws;", true)
def tyX8 : Nat → FieldType := fun k => match k with
  | 0 => .object "SplitClasses$State"
  | 1 => .object "SplitClasses$History"
  | 2 => .object "SplitClasses$Book"
  | 3 => .array (.object "SplitClasses$Image")
  | 4 => .object "SplitClasses$Refiner"
  | 5 => .object "SplitClasses$Walk"
  | 6 => .object "SplitClasses$Row"
  | _ => .object "SplitClasses$Draws"
abbrev wsX80 : List Cond := u_ws RX8 TX8 8
theorem nmX8 : ∀ a, a < 8 → ∀ b, b < 8 → a ≠ b → (TX8 a).2.1 ≠ (TX8 b).2.1 := by decide +kernel
theorem tyX8_ok : ∀ k, k < 8 → parseFieldDescriptor (TX8 k).2.2.1 = some (tyX8 k) := by decide +kernel
abbrev cX8_init : ByteArray := prog_1_method_1_code
def yX8_init : MethodName := ⟨RX8, "<init>", "()V"⟩
abbrev cX8_told : ByteArray := prog_1_method_2_code
def yX8_told : MethodName := ⟨RX8, "told", "(I)I"⟩
abbrev cX8_item : ByteArray := prog_1_method_3_code
def yX8_item : MethodName := ⟨RX8, "item", "(II)I"⟩
abbrev cX8_classAt : ByteArray := prog_1_method_4_code
def yX8_classAt : MethodName := ⟨RX8, "classAt", "(I)I"⟩
abbrev cX8_setBy : ByteArray := prog_1_method_5_code
def yX8_setBy : MethodName := ⟨RX8, "setBy", "(III)I"⟩
abbrev cX8_alike : ByteArray := prog_1_method_6_code
def yX8_alike : MethodName := ⟨RX8, "alike", "(III)I"⟩
abbrev cX8_apart : ByteArray := prog_1_method_7_code
def yX8_apart : MethodName := ⟨RX8, "apart", "(II)I"⟩
abbrev cX8_search : ByteArray := prog_1_method_8_code
def yX8_search : MethodName := ⟨RX8, "search", "(II)I"⟩
abbrev cX8_items : ByteArray := prog_1_method_9_code
def yX8_items : MethodName := ⟨RX8, "items", "(I)I"⟩
abbrev cX8_edge : ByteArray := prog_1_method_10_code
def yX8_edge : MethodName := ⟨RX8, "edge", "(III)I"⟩
abbrev cX8_columns : ByteArray := prog_1_method_11_code
def yX8_columns : MethodName := ⟨RX8, "columns", "(II)I"⟩
abbrev cX8_letters : ByteArray := prog_1_method_12_code
def yX8_letters : MethodName := ⟨RX8, "letters", "(I)I"⟩
abbrev cX8_goes : ByteArray := prog_1_method_13_code
def yX8_goes : MethodName := ⟨RX8, "goes", "(III)I"⟩
abbrev cX8_finals : ByteArray := prog_1_method_14_code
def yX8_finals : MethodName := ⟨RX8, "finals", "(I)I"⟩
abbrev cX8_begin : ByteArray := prog_1_method_15_code
def yX8_begin : MethodName := ⟨RX8, "begin", "()I"⟩
abbrev cX8_split : ByteArray := prog_1_method_16_code
def yX8_split : MethodName := ⟨RX8, "split", "(I)I"⟩
abbrev cX8_by : ByteArray := prog_1_method_17_code
def yX8_by : MethodName := ⟨RX8, "by", "(III)I"⟩
abbrev cX8_refine : ByteArray := prog_1_method_18_code
def yX8_refine : MethodName := ⟨RX8, "refine", "(I)I"⟩
abbrev cX8_join : ByteArray := prog_1_method_19_code
def yX8_join : MethodName := ⟨RX8, "join", "(I)I"⟩
abbrev cX8_arrange : ByteArray := prog_1_method_20_code
def yX8_arrange : MethodName := ⟨RX8, "arrange", "()I"⟩
abbrev cX8_drift : ByteArray := prog_1_method_21_code
def yX8_drift : MethodName := ⟨RX8, "drift", "(I)I"⟩
abbrev cX8_undo : ByteArray := prog_1_method_22_code
def yX8_undo : MethodName := ⟨RX8, "undo", "(I)I"⟩
abbrev cX8_write : ByteArray := prog_1_method_23_code
def yX8_write : MethodName := ⟨RX8, "write", "(II)I"⟩
abbrev cX8_tear : ByteArray := prog_1_method_24_code
def yX8_tear : MethodName := ⟨RX8, "tear", "()I"⟩
abbrev cX8_seed : ByteArray := prog_1_method_25_code
def yX8_seed : MethodName := ⟨RX8, "seed", "(I)I"⟩
abbrev cX8_keep : ByteArray := prog_1_method_26_code
def yX8_keep : MethodName := ⟨RX8, "keep", "(I)I"⟩
abbrev cX8_goBack : ByteArray := prog_1_method_27_code
def yX8_goBack : MethodName := ⟨RX8, "goBack", "(I)I"⟩
abbrev cX8_isRefinedKind : ByteArray := prog_1_method_28_code
def yX8_isRefinedKind : MethodName := ⟨RX8, "isRefinedKind", "(I)Z"⟩
abbrev cX8_refusalOfSet : ByteArray := prog_1_method_29_code
def yX8_refusalOfSet : MethodName := ⟨RX8, "refusalOfSet", "(III)I"⟩
abbrev cX8_splitAndCount : ByteArray := prog_1_method_30_code
def yX8_splitAndCount : MethodName := ⟨RX8, "splitAndCount", "(I)I"⟩
abbrev cX8_refineAside : ByteArray := prog_1_method_31_code
def yX8_refineAside : MethodName := ⟨RX8, "refineAside", "(I)V"⟩
def RX9 : String := "SplitClassesModel"
def TX9 : u_T := fun k => match k with
  | 0 => ("SplitClassesModel", "st", "[I", true)
  | 1 => ("SplitClassesModel", "past", "[I", true)
  | 2 => ("SplitClassesModel", "deeds", "I", false)
  | 3 => ("SplitClassesModel", "images", "[I", true)
  | 4 => ("SplitClassesModel", "isKept", "[Z", true)
  | 5 => ("SplitClassesModel", "seedNow", "I", false)
  | 6 => ("SplitClassesModel", "bookItem", "[I", true)
  | 7 => ("SplitClassesModel", "bookClass", "[I", true)
  | 8 => ("SplitClassesModel", "entries", "I", false)
  | 9 => ("SplitClassesModel", "newRow", "[I", true)
  | 10 => ("SplitClassesModel", "isApart", "[Z", true)
  | 11 => ("SplitClassesModel", "isNow", "[Z", true)
  | 12 => ("SplitClassesModel", "aside", "[I", true)
  | 13 => ("SplitClassesModel", "pairs", "[I", true)
  | 14 => ("SplitClassesModel", "far", "[I", true)
  | 15 => ("SplitClassesModel", "isMet", "[Z", true)
  | _ => ("SplitClassesModel", "searched", "[I", true)
def tyX9 : Nat → FieldType := fun k => match k with
  | 0 => .array .int
  | 1 => .array .int
  | 2 => .int
  | 3 => .array .int
  | 4 => .array .boolean
  | 5 => .int
  | 6 => .array .int
  | 7 => .array .int
  | 8 => .int
  | 9 => .array .int
  | 10 => .array .boolean
  | 11 => .array .boolean
  | 12 => .array .int
  | 13 => .array .int
  | 14 => .array .int
  | 15 => .array .boolean
  | _ => .array .int
abbrev wsX90 : List Cond := u_ws RX9 TX9 17
theorem nmX9 : ∀ a, a < 17 → ∀ b, b < 17 → a ≠ b → (TX9 a).2.1 ≠ (TX9 b).2.1 := by decide +kernel
theorem tyX9_ok : ∀ k, k < 17 → parseFieldDescriptor (TX9 k).2.2.1 = some (tyX9 k) := by decide +kernel
abbrev cX9_init : ByteArray := prog_11_method_1_code
def yX9_init : MethodName := ⟨RX9, "<init>", "()V"⟩
abbrev cX9_in : ByteArray := prog_11_method_2_code
def yX9_in : MethodName := ⟨RX9, "in", "(III)Z"⟩
abbrev cX9_has : ByteArray := prog_11_method_3_code
def yX9_has : MethodName := ⟨RX9, "has", "(II)Z"⟩
abbrev cX9_sizeOf : ByteArray := prog_11_method_4_code
def yX9_sizeOf : MethodName := ⟨RX9, "sizeOf", "(I)I"⟩
abbrev cX9_bring : ByteArray := prog_11_method_5_code
def yX9_bring : MethodName := ⟨RX9, "bring", "([II[III)V"⟩
abbrev cX9_lays : ByteArray := prog_11_method_6_code
def yX9_lays : MethodName := ⟨RX9, "lays", "(I)V"⟩
abbrev cX9_isItem : ByteArray := prog_11_method_7_code
def yX9_isItem : MethodName := ⟨RX9, "isItem", "(I)Z"⟩
abbrev cX9_isSet : ByteArray := prog_11_method_8_code
def yX9_isSet : MethodName := ⟨RX9, "isSet", "(I)Z"⟩
abbrev cX9_notes : ByteArray := prog_11_method_9_code
def yX9_notes : MethodName := ⟨RX9, "notes", "()V"⟩
abbrev cX9_classes : ByteArray := prog_11_method_10_code
def yX9_classes : MethodName := ⟨RX9, "classes", "([II)I"⟩
abbrev cX9_membersOf : ByteArray := prog_11_method_11_code
def yX9_membersOf : MethodName := ⟨RX9, "membersOf", "([III)I"⟩
abbrev cX9_gives : ByteArray := prog_11_method_12_code
def yX9_gives : MethodName := ⟨RX9, "gives", "([IIII)V"⟩
abbrev cX9_splits : ByteArray := prog_11_method_13_code
def yX9_splits : MethodName := ⟨RX9, "splits", "([III)V"⟩
abbrev cX9_arranges : ByteArray := prog_11_method_14_code
def yX9_arranges : MethodName := ⟨RX9, "arranges", "([II)V"⟩
abbrev cX9_columnSet : ByteArray := prog_11_method_15_code
def yX9_columnSet : MethodName := ⟨RX9, "columnSet", "(I)I"⟩
abbrev cX9_leadsTo : ByteArray := prog_11_method_16_code
def yX9_leadsTo : MethodName := ⟨RX9, "leadsTo", "(II)I"⟩
abbrev cX9_atLeast : ByteArray := prog_11_method_17_code
def yX9_atLeast : MethodName := ⟨RX9, "atLeast", "(II)I"⟩
abbrev cX9_askedBy : ByteArray := prog_11_method_18_code
def yX9_askedBy : MethodName := ⟨RX9, "askedBy", "(III)I"⟩
abbrev cX9_setOf : ByteArray := prog_11_method_19_code
def yX9_setOf : MethodName := ⟨RX9, "setOf", "(III)I"⟩
abbrev cX9_setBy : ByteArray := prog_11_method_20_code
def yX9_setBy : MethodName := ⟨RX9, "setBy", "(III)I"⟩
abbrev cX9_isOneMore : ByteArray := prog_11_method_21_code
def yX9_isOneMore : MethodName := ⟨RX9, "isOneMore", "([IIIII)Z"⟩
abbrev cX9_tellsApart : ByteArray := prog_11_method_22_code
def yX9_tellsApart : MethodName := ⟨RX9, "tellsApart", "([III)V"⟩
abbrev cX9_refines : ByteArray := prog_11_method_23_code
def yX9_refines : MethodName := ⟨RX9, "refines", "([III)V"⟩
abbrev cX9_ofItself : ByteArray := prog_11_method_24_code
def yX9_ofItself : MethodName := ⟨RX9, "ofItself", "(I)V"⟩
abbrev cX9_refinedMany : ByteArray := prog_11_method_25_code
def yX9_refinedMany : MethodName := ⟨RX9, "refinedMany", "(I)I"⟩
abbrev cX9_alike : ByteArray := prog_11_method_26_code
def yX9_alike : MethodName := ⟨RX9, "alike", "(III)I"⟩
abbrev cX9_apart : ByteArray := prog_11_method_27_code
def yX9_apart : MethodName := ⟨RX9, "apart", "(II)I"⟩
abbrev cX9_leastOf : ByteArray := prog_11_method_28_code
def yX9_leastOf : MethodName := ⟨RX9, "leastOf", "(I)I"⟩
abbrev cX9_searches : ByteArray := prog_11_method_29_code
def yX9_searches : MethodName := ⟨RX9, "searches", "(I)V"⟩
abbrev cX9_search : ByteArray := prog_11_method_30_code
def yX9_search : MethodName := ⟨RX9, "search", "(II)I"⟩
abbrev cX9_faultNow : ByteArray := prog_11_method_31_code
def yX9_faultNow : MethodName := ⟨RX9, "faultNow", "()I"⟩
abbrev cX9_cliqueNow : ByteArray := prog_11_method_32_code
def yX9_cliqueNow : MethodName := ⟨RX9, "cliqueNow", "()I"⟩
abbrev cX9_edgesNow : ByteArray := prog_11_method_33_code
def yX9_edgesNow : MethodName := ⟨RX9, "edgesNow", "()I"⟩
abbrev cX9_wrongNow : ByteArray := prog_11_method_34_code
def yX9_wrongNow : MethodName := ⟨RX9, "wrongNow", "()I"⟩
abbrev cX9_told : ByteArray := prog_11_method_35_code
def yX9_told : MethodName := ⟨RX9, "told", "(I)I"⟩
abbrev cX9_item : ByteArray := prog_11_method_36_code
def yX9_item : MethodName := ⟨RX9, "item", "(II)I"⟩
abbrev cX9_classAt : ByteArray := prog_11_method_37_code
def yX9_classAt : MethodName := ⟨RX9, "classAt", "(I)I"⟩
abbrev cX9_items : ByteArray := prog_11_method_38_code
def yX9_items : MethodName := ⟨RX9, "items", "(I)I"⟩
abbrev cX9_turnsEdge : ByteArray := prog_11_method_39_code
def yX9_turnsEdge : MethodName := ⟨RX9, "turnsEdge", "(II)V"⟩
abbrev cX9_edge : ByteArray := prog_11_method_40_code
def yX9_edge : MethodName := ⟨RX9, "edge", "(III)I"⟩
abbrev cX9_columns : ByteArray := prog_11_method_41_code
def yX9_columns : MethodName := ⟨RX9, "columns", "(II)I"⟩
abbrev cX9_letters : ByteArray := prog_11_method_42_code
def yX9_letters : MethodName := ⟨RX9, "letters", "(I)I"⟩
abbrev cX9_goes : ByteArray := prog_11_method_43_code
def yX9_goes : MethodName := ⟨RX9, "goes", "(III)I"⟩
abbrev cX9_finals : ByteArray := prog_11_method_44_code
def yX9_finals : MethodName := ⟨RX9, "finals", "(I)I"⟩
abbrev cX9_begin : ByteArray := prog_11_method_45_code
def yX9_begin : MethodName := ⟨RX9, "begin", "()I"⟩
abbrev cX9_splitsNow : ByteArray := prog_11_method_46_code
def yX9_splitsNow : MethodName := ⟨RX9, "splitsNow", "(I)I"⟩
abbrev cX9_split : ByteArray := prog_11_method_47_code
def yX9_split : MethodName := ⟨RX9, "split", "(I)I"⟩
abbrev cX9_by : ByteArray := prog_11_method_48_code
def yX9_by : MethodName := ⟨RX9, "by", "(III)I"⟩
abbrev cX9_refine : ByteArray := prog_11_method_49_code
def yX9_refine : MethodName := ⟨RX9, "refine", "(I)I"⟩
abbrev cX9_join : ByteArray := prog_11_method_50_code
def yX9_join : MethodName := ⟨RX9, "join", "(I)I"⟩
abbrev cX9_arrange : ByteArray := prog_11_method_51_code
def yX9_arrange : MethodName := ⟨RX9, "arrange", "()I"⟩
abbrev cX9_draws : ByteArray := prog_11_method_52_code
def yX9_draws : MethodName := ⟨RX9, "draws", "(I)I"⟩
abbrev cX9_driftsOnce : ByteArray := prog_11_method_53_code
def yX9_driftsOnce : MethodName := ⟨RX9, "driftsOnce", "()V"⟩
abbrev cX9_drift : ByteArray := prog_11_method_54_code
def yX9_drift : MethodName := ⟨RX9, "drift", "(I)I"⟩
abbrev cX9_undo : ByteArray := prog_11_method_55_code
def yX9_undo : MethodName := ⟨RX9, "undo", "(I)I"⟩
abbrev cX9_write : ByteArray := prog_11_method_56_code
def yX9_write : MethodName := ⟨RX9, "write", "(II)I"⟩
abbrev cX9_tear : ByteArray := prog_11_method_57_code
def yX9_tear : MethodName := ⟨RX9, "tear", "()I"⟩
abbrev cX9_seed : ByteArray := prog_11_method_58_code
def yX9_seed : MethodName := ⟨RX9, "seed", "(I)I"⟩
abbrev cX9_keep : ByteArray := prog_11_method_59_code
def yX9_keep : MethodName := ⟨RX9, "keep", "(I)I"⟩
abbrev cX9_goBack : ByteArray := prog_11_method_60_code
def yX9_goBack : MethodName := ⟨RX9, "goBack", "(I)I"⟩
def RJ6 : String := "java/lang/Integer"
def TJ6 : u_T := fun k => match k with
  | _ => ("", "", "", false)
def tyJ6 : Nat → FieldType := fun k => match k with
  | _ => .int
abbrev wsJ60 : List Cond := u_ws RJ6 TJ6 0
theorem nmJ6 : ∀ a, a < 0 → ∀ b, b < 0 → a ≠ b → (TJ6 a).2.1 ≠ (TJ6 b).2.1 := by decide +kernel
theorem tyJ6_ok : ∀ k, k < 0 → parseFieldDescriptor (TJ6 k).2.2.1 = some (tyJ6 k) := by decide +kernel
abbrev cJ6_numberOfTrailingZeros_0f7a4 : ByteArray := prog_12_method_48_code
def yJ6_numberOfTrailingZeros_0f7a4 : MethodName := ⟨RJ6, "numberOfTrailingZeros", "(I)I"⟩
abbrev cJ6_bitCount_0f7a4 : ByteArray := prog_12_method_49_code
def yJ6_bitCount_0f7a4 : MethodName := ⟨RJ6, "bitCount", "(I)I"⟩
def RJ9 : String := "java/lang/Math"
def TJ9 : u_T := fun k => match k with
  | _ => ("", "", "", false)
def tyJ9 : Nat → FieldType := fun k => match k with
  | _ => .int
abbrev wsJ90 : List Cond := u_ws RJ9 TJ9 0
theorem nmJ9 : ∀ a, a < 0 → ∀ b, b < 0 → a ≠ b → (TJ9 a).2.1 ≠ (TJ9 b).2.1 := by decide +kernel
theorem tyJ9_ok : ∀ k, k < 0 → parseFieldDescriptor (TJ9 k).2.2.1 = some (tyJ9 k) := by decide +kernel
abbrev cJ9_floorMod_7cf53 : ByteArray := prog_13_method_50_code
def yJ9_floorMod_7cf53 : MethodName := ⟨RJ9, "floorMod", "(II)I"⟩
abbrev cJ9_max_7cf53 : ByteArray := prog_13_method_65_code
def yJ9_max_7cf53 : MethodName := ⟨RJ9, "max", "(II)I"⟩
abbrev cJ9_min_7cf53 : ByteArray := prog_13_method_69_code
def yJ9_min_7cf53 : MethodName := ⟨RJ9, "min", "(II)I"⟩
def RJ10 : String := "java/lang/System"
def TJ10 : u_T := fun k => match k with
  | _ => ("", "", "", false)
def tyJ10 : Nat → FieldType := fun k => match k with
  | _ => .int
abbrev wsJ100 : List Cond := u_ws RJ10 TJ10 0
theorem nmJ10 : ∀ a, a < 0 → ∀ b, b < 0 → a ≠ b → (TJ10 a).2.1 ≠ (TJ10 b).2.1 := by decide +kernel
theorem tyJ10_ok : ∀ k, k < 0 → parseFieldDescriptor (TJ10 k).2.2.1 = some (tyJ10 k) := by decide +kernel
def RJ7 : String := "java/util/Arrays"
def TJ7 : u_T := fun k => match k with
  | _ => ("", "", "", false)
def tyJ7 : Nat → FieldType := fun k => match k with
  | _ => .int
abbrev wsJ70 : List Cond := u_ws RJ7 TJ7 0
theorem nmJ7 : ∀ a, a < 0 → ∀ b, b < 0 → a ≠ b → (TJ7 a).2.1 ≠ (TJ7 b).2.1 := by decide +kernel
theorem tyJ7_ok : ∀ k, k < 0 → parseFieldDescriptor (TJ7 k).2.2.1 = some (tyJ7 k) := by decide +kernel
abbrev cJ7_fill_53178 : ByteArray := prog_15_method_103_code
def yJ7_fill_53178 : MethodName := ⟨RJ7, "fill", "([II)V"⟩
def RL : String := "SplitClassesLaw"
abbrev cL_law : ByteArray := code
def yL_law : MethodName := ⟨RL, "law", "([I)Z"⟩
def wsX0_init : List Cond := .code yX0_init cX0_init 1 none :: ([.methodLink RX0 3 objectInit, .instanceMethod objectInit, .code objectInit ⟨#[0xb1]⟩ 1 none, .arrayClass .int, .fieldLink RX0 9 "SplitClasses$Book" "entryItems" "[I", .fieldLink RX0 15 "SplitClasses$Book" "entryClasses" "[I", .fieldLink RX0 18 "SplitClasses$Book" "size" "I"] ++ wsX00)
def wsX0_append : List Cond := .code yX0_append cX0_append 3 none :: ([.fieldLink RX0 18 "SplitClasses$Book" "size" "I", .fieldLink RX0 9 "SplitClasses$Book" "entryItems" "[I", .fieldLink RX0 15 "SplitClasses$Book" "entryClasses" "[I"] ++ wsX00)
def wsX6_hasItem : List Cond := .code yX6_hasItem cX6_hasItem 2 (some .boolean) :: ([.fieldLink RX6 32 "SplitClasses$State" "n" "I"] ++ wsX60)
def wsX5_placeOf : List Cond := .code yX5_placeOf cX5_placeOf 3 (some .int) :: ([.fieldLink RX5 15 "SplitClasses$Row" "count" "I", .fieldLink RX5 9 "SplitClasses$Row" "sets" "[I"] ++ wsX50)
def wsX0_firstWrong : List Cond := .code yX0_firstWrong cX0_firstWrong 3 (some .int) :: ([.fieldLink RX0 18 "SplitClasses$Book" "size" "I", .fieldLink RX0 9 "SplitClasses$Book" "entryItems" "[I", .fieldLink RX0 28 "SplitClasses$State" "row" "LSplitClasses$Row;", .fieldLink RX0 15 "SplitClasses$Book" "entryClasses" "[I", .methodLink RX0 22 yX6_hasItem, .instanceMethod yX6_hasItem, .selects RX6 yX6_hasItem yX6_hasItem, .initialized RX6, .code yX6_hasItem cX6_hasItem 2 (some .boolean), .fieldLink RX6 32 "SplitClasses$State" "n" "I", .methodLink RX0 32 yX5_placeOf, .instanceMethod yX5_placeOf, .selects RX5 yX5_placeOf yX5_placeOf, .initialized RX5, .code yX5_placeOf cX5_placeOf 3 (some .int), .fieldLink RX5 15 "SplitClasses$Row" "count" "I", .fieldLink RX5 9 "SplitClasses$Row" "sets" "[I"] ++ wsX00 ++ wsX60 ++ wsX50)
def wsX1_init : List Cond := .code yX1_init cX1_init 1 none :: ([.methodLink RX1 3 objectInit, .instanceMethod objectInit, .code objectInit ⟨#[0xb1]⟩ 1 none, .fieldLink RX1 9 "SplitClasses$Draws" "state" "I"] ++ wsX10)
def wsX1_draw : List Cond := .code yX1_draw cX1_draw 2 (some .int) :: ([.fieldLink RX1 9 "SplitClasses$Draws" "state" "I", .constantLong RX1 15 (1103515245), .constantLong RX1 17 (12345), .constantLong RX1 19 (2147483647), .constant RX1 21 (65536)] ++ wsX10)
def wsX6_flipEdge : List Cond := .code yX6_flipEdge cX6_flipEdge 3 none :: ([.fieldLink RX6 15 "SplitClasses$State" "nearSets" "[I", .methodLink RX6 71 yX6_hasItem, .instanceMethod yX6_hasItem, .selects RX6 yX6_hasItem yX6_hasItem, .initialized RX6, .code yX6_hasItem cX6_hasItem 2 (some .boolean), .fieldLink RX6 32 "SplitClasses$State" "n" "I"] ++ wsX60)
def wsX1_changeEdge : List Cond := .code yX1_changeEdge cX1_changeEdge 4 none :: ([.fieldLink RX1 36 "SplitClasses$State" "n" "I", .methodLink RX1 22 yX1_draw, .instanceMethod yX1_draw, .selects RX1 yX1_draw yX1_draw, .initialized RX1, .code yX1_draw cX1_draw 2 (some .int), .fieldLink RX1 9 "SplitClasses$Draws" "state" "I", .constantLong RX1 15 (1103515245), .constantLong RX1 17 (12345), .constantLong RX1 19 (2147483647), .constant RX1 21 (65536), .methodLink RX1 44 yX6_flipEdge, .instanceMethod yX6_flipEdge, .selects RX6 yX6_flipEdge yX6_flipEdge, .initialized RX6, .code yX6_flipEdge cX6_flipEdge 3 none, .fieldLink RX6 15 "SplitClasses$State" "nearSets" "[I", .methodLink RX6 71 yX6_hasItem, .instanceMethod yX6_hasItem, .selects RX6 yX6_hasItem yX6_hasItem, .code yX6_hasItem cX6_hasItem 2 (some .boolean), .fieldLink RX6 32 "SplitClasses$State" "n" "I"] ++ wsX60 ++ wsX10)
def wsX1_changeColumns : List Cond := .code yX1_changeColumns cX1_changeColumns 4 none :: ([.fieldLink RX1 36 "SplitClasses$State" "n" "I", .fieldLink RX1 52 "SplitClasses$State" "columnSets" "[I", .methodLink RX1 22 yX1_draw, .instanceMethod yX1_draw, .selects RX1 yX1_draw yX1_draw, .initialized RX1, .code yX1_draw cX1_draw 2 (some .int), .fieldLink RX1 9 "SplitClasses$Draws" "state" "I", .constantLong RX1 15 (1103515245), .constantLong RX1 17 (12345), .constantLong RX1 19 (2147483647), .constant RX1 21 (65536), .methodLink RX1 48 yX6_hasItem, .instanceMethod yX6_hasItem, .selects RX6 yX6_hasItem yX6_hasItem, .initialized RX6, .code yX6_hasItem cX6_hasItem 2 (some .boolean), .fieldLink RX6 32 "SplitClasses$State" "n" "I"] ++ wsX60 ++ wsX10)
def wsX6_hasLetter : List Cond := .code yX6_hasLetter cX6_hasLetter 2 (some .boolean) :: ([.fieldLink RX6 42 "SplitClasses$State" "letterCount" "I"] ++ wsX60)
def wsX6_lead : List Cond := .code yX6_lead cX6_lead 4 none :: ([.fieldLink RX6 18 "SplitClasses$State" "leads" "[I", .methodLink RX6 71 yX6_hasItem, .instanceMethod yX6_hasItem, .selects RX6 yX6_hasItem yX6_hasItem, .initialized RX6, .code yX6_hasItem cX6_hasItem 2 (some .boolean), .fieldLink RX6 32 "SplitClasses$State" "n" "I", .methodLink RX6 75 yX6_hasLetter, .instanceMethod yX6_hasLetter, .selects RX6 yX6_hasLetter yX6_hasLetter, .code yX6_hasLetter cX6_hasLetter 2 (some .boolean), .fieldLink RX6 42 "SplitClasses$State" "letterCount" "I"] ++ wsX60)
def wsX1_changeMachine_r1 : List Cond := [Cond.fieldLink RX1 36 "SplitClasses$State" "n" "I", Cond.fieldLink RX1 56 "SplitClasses$State" "letterCount" "I", Cond.methodLink RX1 22 yX1_draw, Cond.instanceMethod yX1_draw, Cond.selects RX1 yX1_draw yX1_draw, Cond.initialized RX1, Cond.code yX1_draw cX1_draw 2 (some .int), Cond.fieldLink RX1 9 "SplitClasses$Draws" "state" "I", Cond.constantLong RX1 15 (1103515245), Cond.constantLong RX1 17 (12345), Cond.constantLong RX1 19 (2147483647), Cond.constant RX1 21 (65536), Cond.methodLink RX1 59 yX6_lead, Cond.instanceMethod yX6_lead, Cond.selects RX6 yX6_lead yX6_lead, Cond.initialized RX6, Cond.code yX6_lead cX6_lead 4 none, Cond.fieldLink RX6 18 "SplitClasses$State" "leads" "[I", Cond.methodLink RX6 71 yX6_hasItem, Cond.instanceMethod yX6_hasItem, Cond.selects RX6 yX6_hasItem yX6_hasItem, Cond.code yX6_hasItem cX6_hasItem 2 (some .boolean), Cond.fieldLink RX6 32 "SplitClasses$State" "n" "I", Cond.methodLink RX6 75 yX6_hasLetter]
def wsX1_changeMachine_r2 : List Cond := [Cond.instanceMethod yX6_hasLetter, Cond.selects RX6 yX6_hasLetter yX6_hasLetter, Cond.code yX6_hasLetter cX6_hasLetter 2 (some .boolean), Cond.fieldLink RX6 42 "SplitClasses$State" "letterCount" "I"]
def wsX1_changeMachine : List Cond := .code yX1_changeMachine cX1_changeMachine 5 none :: ((wsX1_changeMachine_r1 ++ wsX1_changeMachine_r2) ++ wsX60 ++ wsX10)
def wsX1_change_r1 : List Cond := [Cond.fieldLink RX1 36 "SplitClasses$State" "n" "I", Cond.fieldLink RX1 41 "SplitClasses$State" "finalSet" "I", Cond.methodLink RX1 22 yX1_draw, Cond.instanceMethod yX1_draw, Cond.selects RX1 yX1_draw yX1_draw, Cond.initialized RX1, Cond.code yX1_draw cX1_draw 2 (some .int), Cond.fieldLink RX1 9 "SplitClasses$Draws" "state" "I", Cond.constantLong RX1 15 (1103515245), Cond.constantLong RX1 17 (12345), Cond.constantLong RX1 19 (2147483647), Cond.constant RX1 21 (65536), Cond.methodLink RX1 26 yX1_changeEdge, Cond.instanceMethod yX1_changeEdge, Cond.selects RX1 yX1_changeEdge yX1_changeEdge, Cond.code yX1_changeEdge cX1_changeEdge 4 none, Cond.methodLink RX1 44 yX6_flipEdge, Cond.instanceMethod yX6_flipEdge, Cond.selects RX6 yX6_flipEdge yX6_flipEdge, Cond.initialized RX6, Cond.code yX6_flipEdge cX6_flipEdge 3 none, Cond.fieldLink RX6 15 "SplitClasses$State" "nearSets" "[I", Cond.methodLink RX6 71 yX6_hasItem, Cond.instanceMethod yX6_hasItem]
def wsX1_change_r2 : List Cond := [Cond.selects RX6 yX6_hasItem yX6_hasItem, Cond.code yX6_hasItem cX6_hasItem 2 (some .boolean), Cond.fieldLink RX6 32 "SplitClasses$State" "n" "I", Cond.methodLink RX1 30 yX1_changeColumns, Cond.instanceMethod yX1_changeColumns, Cond.selects RX1 yX1_changeColumns yX1_changeColumns, Cond.code yX1_changeColumns cX1_changeColumns 4 none, Cond.fieldLink RX1 52 "SplitClasses$State" "columnSets" "[I", Cond.methodLink RX1 48 yX6_hasItem, Cond.methodLink RX1 33 yX1_changeMachine, Cond.instanceMethod yX1_changeMachine, Cond.selects RX1 yX1_changeMachine yX1_changeMachine, Cond.code yX1_changeMachine cX1_changeMachine 5 none, Cond.fieldLink RX1 56 "SplitClasses$State" "letterCount" "I", Cond.methodLink RX1 59 yX6_lead, Cond.instanceMethod yX6_lead, Cond.selects RX6 yX6_lead yX6_lead, Cond.code yX6_lead cX6_lead 4 none, Cond.fieldLink RX6 18 "SplitClasses$State" "leads" "[I", Cond.methodLink RX6 75 yX6_hasLetter, Cond.instanceMethod yX6_hasLetter, Cond.selects RX6 yX6_hasLetter yX6_hasLetter, Cond.code yX6_hasLetter cX6_hasLetter 2 (some .boolean), Cond.fieldLink RX6 42 "SplitClasses$State" "letterCount" "I"]
def wsX1_change : List Cond := .code yX1_change cX1_change 2 none :: ((wsX1_change_r1 ++ wsX1_change_r2) ++ wsX60 ++ wsX10)
def wsX5_init : List Cond := .code yX5_init cX5_init 1 none :: ([.methodLink RX5 3 objectInit, .instanceMethod objectInit, .code objectInit ⟨#[0xb1]⟩ 1 none, .arrayClass .int, .fieldLink RX5 9 "SplitClasses$Row" "sets" "[I", .fieldLink RX5 15 "SplitClasses$Row" "count" "I"] ++ wsX50)
def wsJ7_fill_53178 : List Cond := .code yJ7_fill_53178 cJ7_fill_53178 4 none :: ([])
def wsX6_takeLetters : List Cond := .code yX6_takeLetters cX6_takeLetters 5 none :: ([.fieldLink RX6 42 "SplitClasses$State" "letterCount" "I", .fieldLink RX6 32 "SplitClasses$State" "n" "I", .methodLink RX6 78 yX6_lead, .instanceMethod yX6_lead, .selects RX6 yX6_lead yX6_lead, .initialized RX6, .code yX6_lead cX6_lead 4 none, .fieldLink RX6 18 "SplitClasses$State" "leads" "[I", .methodLink RX6 71 yX6_hasItem, .instanceMethod yX6_hasItem, .selects RX6 yX6_hasItem yX6_hasItem, .code yX6_hasItem cX6_hasItem 2 (some .boolean), .methodLink RX6 75 yX6_hasLetter, .instanceMethod yX6_hasLetter, .selects RX6 yX6_hasLetter yX6_hasLetter, .code yX6_hasLetter cX6_hasLetter 2 (some .boolean)] ++ wsX60)
def wsX6_all : List Cond := .code yX6_all cX6_all 1 (some .int) :: ([.fieldLink RX6 32 "SplitClasses$State" "n" "I"] ++ wsX60)
def wsX5_gather : List Cond := .code yX5_gather cX5_gather 2 none :: ([.fieldLink RX5 9 "SplitClasses$Row" "sets" "[I", .fieldLink RX5 15 "SplitClasses$Row" "count" "I"] ++ wsX50)
def wsX6_startWith_r1 : List Cond := [Cond.fieldLink RX6 32 "SplitClasses$State" "n" "I", Cond.fieldLink RX6 9 "SplitClasses$State" "columnSets" "[I", Cond.fieldLink RX6 15 "SplitClasses$State" "nearSets" "[I", Cond.fieldLink RX6 42 "SplitClasses$State" "letterCount" "I", Cond.fieldLink RX6 48 "SplitClasses$State" "finalSet" "I", Cond.fieldLink RX6 24 "SplitClasses$State" "row" "LSplitClasses$Row;", Cond.fieldLink RX6 58 "SplitClasses$State" "work" "I", Cond.methodLink RX6 36 yJ7_fill_53178, Cond.static yJ7_fill_53178, Cond.initialized RJ7, Cond.code yJ7_fill_53178 cJ7_fill_53178 4 none, Cond.methodLink RX6 45 yX6_takeLetters, Cond.instanceMethod yX6_takeLetters, Cond.selects RX6 yX6_takeLetters yX6_takeLetters, Cond.initialized RX6, Cond.code yX6_takeLetters cX6_takeLetters 5 none, Cond.methodLink RX6 78 yX6_lead, Cond.instanceMethod yX6_lead, Cond.selects RX6 yX6_lead yX6_lead, Cond.code yX6_lead cX6_lead 4 none, Cond.fieldLink RX6 18 "SplitClasses$State" "leads" "[I", Cond.methodLink RX6 71 yX6_hasItem, Cond.instanceMethod yX6_hasItem, Cond.selects RX6 yX6_hasItem yX6_hasItem]
def wsX6_startWith_r2 : List Cond := [Cond.code yX6_hasItem cX6_hasItem 2 (some .boolean), Cond.methodLink RX6 75 yX6_hasLetter, Cond.instanceMethod yX6_hasLetter, Cond.selects RX6 yX6_hasLetter yX6_hasLetter, Cond.code yX6_hasLetter cX6_hasLetter 2 (some .boolean), Cond.methodLink RX6 51 yX6_all, Cond.instanceMethod yX6_all, Cond.selects RX6 yX6_all yX6_all, Cond.code yX6_all cX6_all 1 (some .int), Cond.methodLink RX6 55 yX5_gather, Cond.instanceMethod yX5_gather, Cond.selects RX5 yX5_gather yX5_gather, Cond.initialized RX5, Cond.code yX5_gather cX5_gather 2 none, Cond.fieldLink RX5 9 "SplitClasses$Row" "sets" "[I", Cond.fieldLink RX5 15 "SplitClasses$Row" "count" "I"]
def wsX6_startWith : List Cond := .code yX6_startWith cX6_startWith 2 none :: ((wsX6_startWith_r1 ++ wsX6_startWith_r2) ++ wsX60 ++ wsX50)
def wsX6_init_r1 : List Cond := [Cond.methodLink RX6 3 objectInit, Cond.instanceMethod objectInit, Cond.code objectInit ⟨#[0xb1]⟩ 1 none, Cond.arrayClass .int, Cond.fieldLink RX6 9 "SplitClasses$State" "columnSets" "[I", Cond.fieldLink RX6 15 "SplitClasses$State" "nearSets" "[I", Cond.fieldLink RX6 18 "SplitClasses$State" "leads" "[I", Cond.classLink RX6 21 RX5, Cond.instantiable RX5 2, Cond.initialized RX5, Cond.fieldLink RX6 24 "SplitClasses$State" "row" "LSplitClasses$Row;", Cond.methodLink RX6 23 yX5_init, Cond.instanceMethod yX5_init, Cond.code yX5_init cX5_init 1 none, Cond.methodLink RX5 3 objectInit, Cond.fieldLink RX5 9 "SplitClasses$Row" "sets" "[I", Cond.fieldLink RX5 15 "SplitClasses$Row" "count" "I", Cond.methodLink RX6 28 yX6_startWith, Cond.instanceMethod yX6_startWith, Cond.selects RX6 yX6_startWith yX6_startWith, Cond.initialized RX6, Cond.code yX6_startWith cX6_startWith 2 none, Cond.fieldLink RX6 32 "SplitClasses$State" "n" "I", Cond.fieldLink RX6 42 "SplitClasses$State" "letterCount" "I"]
def wsX6_init_r2 : List Cond := [Cond.fieldLink RX6 48 "SplitClasses$State" "finalSet" "I", Cond.fieldLink RX6 58 "SplitClasses$State" "work" "I", Cond.methodLink RX6 36 yJ7_fill_53178, Cond.static yJ7_fill_53178, Cond.initialized RJ7, Cond.code yJ7_fill_53178 cJ7_fill_53178 4 none, Cond.methodLink RX6 45 yX6_takeLetters, Cond.instanceMethod yX6_takeLetters, Cond.selects RX6 yX6_takeLetters yX6_takeLetters, Cond.code yX6_takeLetters cX6_takeLetters 5 none, Cond.methodLink RX6 78 yX6_lead, Cond.instanceMethod yX6_lead, Cond.selects RX6 yX6_lead yX6_lead, Cond.code yX6_lead cX6_lead 4 none, Cond.methodLink RX6 71 yX6_hasItem, Cond.instanceMethod yX6_hasItem, Cond.selects RX6 yX6_hasItem yX6_hasItem, Cond.code yX6_hasItem cX6_hasItem 2 (some .boolean), Cond.methodLink RX6 75 yX6_hasLetter, Cond.instanceMethod yX6_hasLetter, Cond.selects RX6 yX6_hasLetter yX6_hasLetter, Cond.code yX6_hasLetter cX6_hasLetter 2 (some .boolean), Cond.methodLink RX6 51 yX6_all, Cond.instanceMethod yX6_all]
def wsX6_init_r3 : List Cond := [Cond.selects RX6 yX6_all yX6_all, Cond.code yX6_all cX6_all 1 (some .int), Cond.methodLink RX6 55 yX5_gather, Cond.instanceMethod yX5_gather, Cond.selects RX5 yX5_gather yX5_gather, Cond.code yX5_gather cX5_gather 2 none]
def wsX6_init : List Cond := .code yX6_init cX6_init 1 none :: ((wsX6_init_r1 ++ (wsX6_init_r2 ++ wsX6_init_r3)) ++ wsX60 ++ wsX50)
def wsX2_init_r1 : List Cond := [Cond.methodLink RX2 3 objectInit, Cond.instanceMethod objectInit, Cond.code objectInit ⟨#[0xb1]⟩ 1 none, Cond.classLink RX2 9 RX6, Cond.fieldLink RX2 11 "SplitClasses$History" "ring" "[LSplitClasses$State;", Cond.instantiable RX6 8, Cond.initialized RX6, Cond.fieldLink RX2 18 "SplitClasses$History" "next" "I", Cond.fieldLink RX2 22 "SplitClasses$History" "count" "I", Cond.methodLink RX2 17 yX6_init, Cond.instanceMethod yX6_init, Cond.code yX6_init cX6_init 1 none, Cond.methodLink RX6 3 objectInit, Cond.arrayClass .int, Cond.fieldLink RX6 9 "SplitClasses$State" "columnSets" "[I", Cond.fieldLink RX6 15 "SplitClasses$State" "nearSets" "[I", Cond.fieldLink RX6 18 "SplitClasses$State" "leads" "[I", Cond.classLink RX6 21 RX5, Cond.instantiable RX5 2, Cond.initialized RX5, Cond.fieldLink RX6 24 "SplitClasses$State" "row" "LSplitClasses$Row;", Cond.methodLink RX6 23 yX5_init, Cond.instanceMethod yX5_init, Cond.code yX5_init cX5_init 1 none]
def wsX2_init_r2 : List Cond := [Cond.methodLink RX5 3 objectInit, Cond.fieldLink RX5 9 "SplitClasses$Row" "sets" "[I", Cond.fieldLink RX5 15 "SplitClasses$Row" "count" "I", Cond.methodLink RX6 28 yX6_startWith, Cond.instanceMethod yX6_startWith, Cond.selects RX6 yX6_startWith yX6_startWith, Cond.code yX6_startWith cX6_startWith 2 none, Cond.fieldLink RX6 32 "SplitClasses$State" "n" "I", Cond.fieldLink RX6 42 "SplitClasses$State" "letterCount" "I", Cond.fieldLink RX6 48 "SplitClasses$State" "finalSet" "I", Cond.fieldLink RX6 58 "SplitClasses$State" "work" "I", Cond.methodLink RX6 36 yJ7_fill_53178, Cond.static yJ7_fill_53178, Cond.initialized RJ7, Cond.code yJ7_fill_53178 cJ7_fill_53178 4 none, Cond.methodLink RX6 45 yX6_takeLetters, Cond.instanceMethod yX6_takeLetters, Cond.selects RX6 yX6_takeLetters yX6_takeLetters, Cond.code yX6_takeLetters cX6_takeLetters 5 none, Cond.methodLink RX6 78 yX6_lead, Cond.instanceMethod yX6_lead, Cond.selects RX6 yX6_lead yX6_lead, Cond.code yX6_lead cX6_lead 4 none, Cond.methodLink RX6 71 yX6_hasItem]
def wsX2_init_r3 : List Cond := [Cond.instanceMethod yX6_hasItem, Cond.selects RX6 yX6_hasItem yX6_hasItem, Cond.code yX6_hasItem cX6_hasItem 2 (some .boolean), Cond.methodLink RX6 75 yX6_hasLetter, Cond.instanceMethod yX6_hasLetter, Cond.selects RX6 yX6_hasLetter yX6_hasLetter, Cond.code yX6_hasLetter cX6_hasLetter 2 (some .boolean), Cond.methodLink RX6 51 yX6_all, Cond.instanceMethod yX6_all, Cond.selects RX6 yX6_all yX6_all, Cond.code yX6_all cX6_all 1 (some .int), Cond.methodLink RX6 55 yX5_gather, Cond.instanceMethod yX5_gather, Cond.selects RX5 yX5_gather yX5_gather, Cond.code yX5_gather cX5_gather 2 none]
def wsX2_init : List Cond := .code yX2_init cX2_init 2 none :: ((wsX2_init_r1 ++ (wsX2_init_r2 ++ wsX2_init_r3)) ++ wsX20 ++ wsX60 ++ wsX50)
def wsX5_copyFrom : List Cond := .code yX5_copyFrom cX5_copyFrom 2 none :: ([.fieldLink RX5 9 "SplitClasses$Row" "sets" "[I", .methodLink RX5 19 arraycopyName, .native arraycopyName, .static arraycopyName, .initialized "java/lang/System", .fieldLink RX5 15 "SplitClasses$Row" "count" "I"] ++ wsX50)
def wsX6_copyFrom : List Cond := .code yX6_copyFrom cX6_copyFrom 2 none :: ([.fieldLink RX6 32 "SplitClasses$State" "n" "I", .fieldLink RX6 42 "SplitClasses$State" "letterCount" "I", .fieldLink RX6 48 "SplitClasses$State" "finalSet" "I", .fieldLink RX6 58 "SplitClasses$State" "work" "I", .fieldLink RX6 9 "SplitClasses$State" "columnSets" "[I", .methodLink RX6 61 arraycopyName, .native arraycopyName, .static arraycopyName, .initialized "java/lang/System", .fieldLink RX6 15 "SplitClasses$State" "nearSets" "[I", .fieldLink RX6 18 "SplitClasses$State" "leads" "[I", .fieldLink RX6 24 "SplitClasses$State" "row" "LSplitClasses$Row;", .methodLink RX6 67 yX5_copyFrom, .instanceMethod yX5_copyFrom, .selects RX5 yX5_copyFrom yX5_copyFrom, .initialized RX5, .code yX5_copyFrom cX5_copyFrom 2 none, .fieldLink RX5 9 "SplitClasses$Row" "sets" "[I", .methodLink RX5 19 arraycopyName, .fieldLink RX5 15 "SplitClasses$Row" "count" "I"] ++ wsX60 ++ wsX50)
def wsX2_remember_r1 : List Cond := [Cond.fieldLink RX2 11 "SplitClasses$History" "ring" "[LSplitClasses$State;", Cond.fieldLink RX2 18 "SplitClasses$History" "next" "I", Cond.fieldLink RX2 22 "SplitClasses$History" "count" "I", Cond.methodLink RX2 29 Lib.Math.min.name, Cond.static Lib.Math.min.name, Cond.initialized "java/lang/Math", Cond.code Lib.Math.min.name Lib.Math.min.code 2 (some .int), Cond.methodLink RX2 25 yX6_copyFrom, Cond.instanceMethod yX6_copyFrom, Cond.selects RX6 yX6_copyFrom yX6_copyFrom, Cond.initialized RX6, Cond.code yX6_copyFrom cX6_copyFrom 2 none, Cond.fieldLink RX6 32 "SplitClasses$State" "n" "I", Cond.fieldLink RX6 42 "SplitClasses$State" "letterCount" "I", Cond.fieldLink RX6 48 "SplitClasses$State" "finalSet" "I", Cond.fieldLink RX6 58 "SplitClasses$State" "work" "I", Cond.fieldLink RX6 9 "SplitClasses$State" "columnSets" "[I", Cond.methodLink RX6 61 arraycopyName, Cond.native arraycopyName, Cond.static arraycopyName, Cond.initialized "java/lang/System", Cond.fieldLink RX6 15 "SplitClasses$State" "nearSets" "[I", Cond.fieldLink RX6 18 "SplitClasses$State" "leads" "[I", Cond.fieldLink RX6 24 "SplitClasses$State" "row" "LSplitClasses$Row;"]
def wsX2_remember_r2 : List Cond := [Cond.methodLink RX6 67 yX5_copyFrom, Cond.instanceMethod yX5_copyFrom, Cond.selects RX5 yX5_copyFrom yX5_copyFrom, Cond.initialized RX5, Cond.code yX5_copyFrom cX5_copyFrom 2 none, Cond.fieldLink RX5 9 "SplitClasses$Row" "sets" "[I", Cond.methodLink RX5 19 arraycopyName, Cond.fieldLink RX5 15 "SplitClasses$Row" "count" "I"]
def wsX2_remember : List Cond := .code yX2_remember cX2_remember 2 none :: ((wsX2_remember_r1 ++ wsX2_remember_r2) ++ wsX20 ++ wsX60 ++ wsX50)
def wsJ9_floorMod_7cf53 : List Cond := .code yJ9_floorMod_7cf53 cJ9_floorMod_7cf53 3 (some .int) :: ([])
def wsX2_takeBack_r1 : List Cond := [Cond.fieldLink RX2 18 "SplitClasses$History" "next" "I", Cond.fieldLink RX2 11 "SplitClasses$History" "ring" "[LSplitClasses$State;", Cond.fieldLink RX2 22 "SplitClasses$History" "count" "I", Cond.methodLink RX2 35 yJ9_floorMod_7cf53, Cond.static yJ9_floorMod_7cf53, Cond.initialized RJ9, Cond.code yJ9_floorMod_7cf53 cJ9_floorMod_7cf53 3 (some .int), Cond.methodLink RX2 25 yX6_copyFrom, Cond.instanceMethod yX6_copyFrom, Cond.selects RX6 yX6_copyFrom yX6_copyFrom, Cond.initialized RX6, Cond.code yX6_copyFrom cX6_copyFrom 2 none, Cond.fieldLink RX6 32 "SplitClasses$State" "n" "I", Cond.fieldLink RX6 42 "SplitClasses$State" "letterCount" "I", Cond.fieldLink RX6 48 "SplitClasses$State" "finalSet" "I", Cond.fieldLink RX6 58 "SplitClasses$State" "work" "I", Cond.fieldLink RX6 9 "SplitClasses$State" "columnSets" "[I", Cond.methodLink RX6 61 arraycopyName, Cond.native arraycopyName, Cond.static arraycopyName, Cond.initialized "java/lang/System", Cond.fieldLink RX6 15 "SplitClasses$State" "nearSets" "[I", Cond.fieldLink RX6 18 "SplitClasses$State" "leads" "[I", Cond.fieldLink RX6 24 "SplitClasses$State" "row" "LSplitClasses$Row;"]
def wsX2_takeBack_r2 : List Cond := [Cond.methodLink RX6 67 yX5_copyFrom, Cond.instanceMethod yX5_copyFrom, Cond.selects RX5 yX5_copyFrom yX5_copyFrom, Cond.initialized RX5, Cond.code yX5_copyFrom cX5_copyFrom 2 none, Cond.fieldLink RX5 9 "SplitClasses$Row" "sets" "[I", Cond.methodLink RX5 19 arraycopyName, Cond.fieldLink RX5 15 "SplitClasses$Row" "count" "I"]
def wsX2_takeBack : List Cond := .code yX2_takeBack cX2_takeBack 3 none :: ((wsX2_takeBack_r1 ++ wsX2_takeBack_r2) ++ wsX20 ++ wsX60 ++ wsX50)
def wsX3_init_r1 : List Cond := [Cond.methodLink RX3 1 objectInit, Cond.instanceMethod objectInit, Cond.code objectInit ⟨#[0xb1]⟩ 1 none, Cond.fieldLink RX3 7 "SplitClasses$Image" "kept" "Z", Cond.fieldLink RX3 13 "SplitClasses$Image" "drawState" "I", Cond.classLink RX3 17 RX6, Cond.instantiable RX6 8, Cond.initialized RX6, Cond.fieldLink RX3 20 "SplitClasses$Image" "state" "LSplitClasses$State;", Cond.methodLink RX3 19 yX6_init, Cond.instanceMethod yX6_init, Cond.code yX6_init cX6_init 1 none, Cond.methodLink RX6 3 objectInit, Cond.arrayClass .int, Cond.fieldLink RX6 9 "SplitClasses$State" "columnSets" "[I", Cond.fieldLink RX6 15 "SplitClasses$State" "nearSets" "[I", Cond.fieldLink RX6 18 "SplitClasses$State" "leads" "[I", Cond.classLink RX6 21 RX5, Cond.instantiable RX5 2, Cond.initialized RX5, Cond.fieldLink RX6 24 "SplitClasses$State" "row" "LSplitClasses$Row;", Cond.methodLink RX6 23 yX5_init, Cond.instanceMethod yX5_init, Cond.code yX5_init cX5_init 1 none]
def wsX3_init_r2 : List Cond := [Cond.methodLink RX5 3 objectInit, Cond.fieldLink RX5 9 "SplitClasses$Row" "sets" "[I", Cond.fieldLink RX5 15 "SplitClasses$Row" "count" "I", Cond.methodLink RX6 28 yX6_startWith, Cond.instanceMethod yX6_startWith, Cond.selects RX6 yX6_startWith yX6_startWith, Cond.code yX6_startWith cX6_startWith 2 none, Cond.fieldLink RX6 32 "SplitClasses$State" "n" "I", Cond.fieldLink RX6 42 "SplitClasses$State" "letterCount" "I", Cond.fieldLink RX6 48 "SplitClasses$State" "finalSet" "I", Cond.fieldLink RX6 58 "SplitClasses$State" "work" "I", Cond.methodLink RX6 36 yJ7_fill_53178, Cond.static yJ7_fill_53178, Cond.initialized RJ7, Cond.code yJ7_fill_53178 cJ7_fill_53178 4 none, Cond.methodLink RX6 45 yX6_takeLetters, Cond.instanceMethod yX6_takeLetters, Cond.selects RX6 yX6_takeLetters yX6_takeLetters, Cond.code yX6_takeLetters cX6_takeLetters 5 none, Cond.methodLink RX6 78 yX6_lead, Cond.instanceMethod yX6_lead, Cond.selects RX6 yX6_lead yX6_lead, Cond.code yX6_lead cX6_lead 4 none, Cond.methodLink RX6 71 yX6_hasItem]
def wsX3_init_r3 : List Cond := [Cond.instanceMethod yX6_hasItem, Cond.selects RX6 yX6_hasItem yX6_hasItem, Cond.code yX6_hasItem cX6_hasItem 2 (some .boolean), Cond.methodLink RX6 75 yX6_hasLetter, Cond.instanceMethod yX6_hasLetter, Cond.selects RX6 yX6_hasLetter yX6_hasLetter, Cond.code yX6_hasLetter cX6_hasLetter 2 (some .boolean), Cond.methodLink RX6 51 yX6_all, Cond.instanceMethod yX6_all, Cond.selects RX6 yX6_all yX6_all, Cond.code yX6_all cX6_all 1 (some .int), Cond.methodLink RX6 55 yX5_gather, Cond.instanceMethod yX5_gather, Cond.selects RX5 yX5_gather yX5_gather, Cond.code yX5_gather cX5_gather 2 none]
def wsX3_init : List Cond := .code yX3_init cX3_init 1 none :: ((wsX3_init_r1 ++ (wsX3_init_r2 ++ wsX3_init_r3)) ++ wsX30 ++ wsX60 ++ wsX50)
def wsX4_init : List Cond := .code yX4_init cX4_init 1 none :: ([.methodLink RX4 3 objectInit, .instanceMethod objectInit, .code objectInit ⟨#[0xb1]⟩ 1 none, .classLink RX4 9 RX5, .instantiable RX5 2, .initialized RX5, .fieldLink RX4 12 "SplitClasses$Refiner" "before" "LSplitClasses$Row;", .methodLink RX4 11 yX5_init, .instanceMethod yX5_init, .code yX5_init cX5_init 1 none, .methodLink RX5 3 objectInit, .arrayClass .int, .fieldLink RX5 9 "SplitClasses$Row" "sets" "[I", .fieldLink RX5 15 "SplitClasses$Row" "count" "I"] ++ wsX50 ++ wsX40)
def wsX5_openPlace : List Cond := .code yX5_openPlace cX5_openPlace 3 none :: ([.fieldLink RX5 15 "SplitClasses$Row" "count" "I", .fieldLink RX5 9 "SplitClasses$Row" "sets" "[I"] ++ wsX50)
def wsX5_cutBy : List Cond := .code yX5_cutBy cX5_cutBy 5 none :: ([.fieldLink RX5 15 "SplitClasses$Row" "count" "I", .fieldLink RX5 9 "SplitClasses$Row" "sets" "[I", .methodLink RX5 29 yX5_openPlace, .instanceMethod yX5_openPlace, .selects RX5 yX5_openPlace yX5_openPlace, .initialized RX5, .code yX5_openPlace cX5_openPlace 3 none] ++ wsX50)
def wsX5_hasPlace : List Cond := .code yX5_hasPlace cX5_hasPlace 2 (some .boolean) :: ([.fieldLink RX5 15 "SplitClasses$Row" "count" "I"] ++ wsX50)
def wsX5_setAt : List Cond := .code yX5_setAt cX5_setAt 2 (some .int) :: ([.fieldLink RX5 9 "SplitClasses$Row" "sets" "[I", .methodLink RX5 25 yX5_hasPlace, .instanceMethod yX5_hasPlace, .selects RX5 yX5_hasPlace yX5_hasPlace, .initialized RX5, .code yX5_hasPlace cX5_hasPlace 2 (some .boolean), .fieldLink RX5 15 "SplitClasses$Row" "count" "I"] ++ wsX50)
def wsX6_leadsTo : List Cond := .code yX6_leadsTo cX6_leadsTo 3 (some .int) :: ([.fieldLink RX6 18 "SplitClasses$State" "leads" "[I", .methodLink RX6 71 yX6_hasItem, .instanceMethod yX6_hasItem, .selects RX6 yX6_hasItem yX6_hasItem, .initialized RX6, .code yX6_hasItem cX6_hasItem 2 (some .boolean), .fieldLink RX6 32 "SplitClasses$State" "n" "I", .methodLink RX6 75 yX6_hasLetter, .instanceMethod yX6_hasLetter, .selects RX6 yX6_hasLetter yX6_hasLetter, .code yX6_hasLetter cX6_hasLetter 2 (some .boolean), .fieldLink RX6 42 "SplitClasses$State" "letterCount" "I"] ++ wsX60)
def wsX6_itemsThatGoInto : List Cond := .code yX6_itemsThatGoInto cX6_itemsThatGoInto 5 (some .int) :: ([.fieldLink RX6 32 "SplitClasses$State" "n" "I", .methodLink RX6 101 yX6_leadsTo, .instanceMethod yX6_leadsTo, .selects RX6 yX6_leadsTo yX6_leadsTo, .initialized RX6, .code yX6_leadsTo cX6_leadsTo 3 (some .int), .fieldLink RX6 18 "SplitClasses$State" "leads" "[I", .methodLink RX6 71 yX6_hasItem, .instanceMethod yX6_hasItem, .selects RX6 yX6_hasItem yX6_hasItem, .code yX6_hasItem cX6_hasItem 2 (some .boolean), .methodLink RX6 75 yX6_hasLetter, .instanceMethod yX6_hasLetter, .selects RX6 yX6_hasLetter yX6_hasLetter, .code yX6_hasLetter cX6_hasLetter 2 (some .boolean), .fieldLink RX6 42 "SplitClasses$State" "letterCount" "I"] ++ wsX60)
def wsX4_cutByLetters_r1 : List Cond := [Cond.fieldLink RX4 60 "SplitClasses$State" "letterCount" "I", Cond.fieldLink RX4 12 "SplitClasses$Refiner" "before" "LSplitClasses$Row;", Cond.fieldLink RX4 54 "SplitClasses$Row" "count" "I", Cond.methodLink RX4 63 yX5_setAt, Cond.instanceMethod yX5_setAt, Cond.selects RX5 yX5_setAt yX5_setAt, Cond.initialized RX5, Cond.code yX5_setAt cX5_setAt 2 (some .int), Cond.fieldLink RX5 9 "SplitClasses$Row" "sets" "[I", Cond.methodLink RX5 25 yX5_hasPlace, Cond.instanceMethod yX5_hasPlace, Cond.selects RX5 yX5_hasPlace yX5_hasPlace, Cond.code yX5_hasPlace cX5_hasPlace 2 (some .boolean), Cond.fieldLink RX5 15 "SplitClasses$Row" "count" "I", Cond.methodLink RX4 67 yX6_itemsThatGoInto, Cond.instanceMethod yX6_itemsThatGoInto, Cond.selects RX6 yX6_itemsThatGoInto yX6_itemsThatGoInto, Cond.initialized RX6, Cond.code yX6_itemsThatGoInto cX6_itemsThatGoInto 5 (some .int), Cond.fieldLink RX6 32 "SplitClasses$State" "n" "I", Cond.methodLink RX6 101 yX6_leadsTo, Cond.instanceMethod yX6_leadsTo, Cond.selects RX6 yX6_leadsTo yX6_leadsTo, Cond.code yX6_leadsTo cX6_leadsTo 3 (some .int)]
def wsX4_cutByLetters_r2 : List Cond := [Cond.fieldLink RX6 18 "SplitClasses$State" "leads" "[I", Cond.methodLink RX6 71 yX6_hasItem, Cond.instanceMethod yX6_hasItem, Cond.selects RX6 yX6_hasItem yX6_hasItem, Cond.code yX6_hasItem cX6_hasItem 2 (some .boolean), Cond.methodLink RX6 75 yX6_hasLetter, Cond.instanceMethod yX6_hasLetter, Cond.selects RX6 yX6_hasLetter yX6_hasLetter, Cond.code yX6_hasLetter cX6_hasLetter 2 (some .boolean), Cond.fieldLink RX6 42 "SplitClasses$State" "letterCount" "I", Cond.methodLink RX4 24 yX5_cutBy, Cond.instanceMethod yX5_cutBy, Cond.selects RX5 yX5_cutBy yX5_cutBy, Cond.code yX5_cutBy cX5_cutBy 5 none, Cond.methodLink RX5 29 yX5_openPlace, Cond.instanceMethod yX5_openPlace, Cond.selects RX5 yX5_openPlace yX5_openPlace, Cond.code yX5_openPlace cX5_openPlace 3 none]
def wsX4_cutByLetters : List Cond := .code yX4_cutByLetters cX4_cutByLetters 5 none :: ((wsX4_cutByLetters_r1 ++ wsX4_cutByLetters_r2) ++ wsX60 ++ wsX40 ++ wsX50)
def wsJ6_bitCount_0f7a4 : List Cond := .code yJ6_bitCount_0f7a4 cJ6_bitCount_0f7a4 1 (some .int) :: ([.constant RJ6 265 (1431655765), .constant RJ6 266 (858993459), .constant RJ6 267 (252645135)])
def wsX6_itemsWithNearIn : List Cond := .code yX6_itemsWithNearIn cX6_itemsWithNearIn 5 (some .int) :: ([.fieldLink RX6 32 "SplitClasses$State" "n" "I", .fieldLink RX6 15 "SplitClasses$State" "nearSets" "[I", .methodLink RX6 82 yJ6_bitCount_0f7a4, .static yJ6_bitCount_0f7a4, .initialized RJ6, .code yJ6_bitCount_0f7a4 cJ6_bitCount_0f7a4 1 (some .int), .constant RJ6 265 (1431655765), .constant RJ6 266 (858993459), .constant RJ6 267 (252645135)] ++ wsX60)
def wsX4_cutByNearCounts_r1 : List Cond := [Cond.fieldLink RX4 12 "SplitClasses$Refiner" "before" "LSplitClasses$Row;", Cond.fieldLink RX4 54 "SplitClasses$Row" "count" "I", Cond.methodLink RX4 63 yX5_setAt, Cond.instanceMethod yX5_setAt, Cond.selects RX5 yX5_setAt yX5_setAt, Cond.initialized RX5, Cond.code yX5_setAt cX5_setAt 2 (some .int), Cond.fieldLink RX5 9 "SplitClasses$Row" "sets" "[I", Cond.methodLink RX5 25 yX5_hasPlace, Cond.instanceMethod yX5_hasPlace, Cond.selects RX5 yX5_hasPlace yX5_hasPlace, Cond.code yX5_hasPlace cX5_hasPlace 2 (some .boolean), Cond.fieldLink RX5 15 "SplitClasses$Row" "count" "I", Cond.methodLink RX4 71 yJ6_bitCount_0f7a4, Cond.static yJ6_bitCount_0f7a4, Cond.initialized RJ6, Cond.code yJ6_bitCount_0f7a4 cJ6_bitCount_0f7a4 1 (some .int), Cond.constant RJ6 265 (1431655765), Cond.constant RJ6 266 (858993459), Cond.constant RJ6 267 (252645135), Cond.methodLink RX4 76 yX6_itemsWithNearIn, Cond.instanceMethod yX6_itemsWithNearIn, Cond.selects RX6 yX6_itemsWithNearIn yX6_itemsWithNearIn, Cond.initialized RX6]
def wsX4_cutByNearCounts_r2 : List Cond := [Cond.code yX6_itemsWithNearIn cX6_itemsWithNearIn 5 (some .int), Cond.fieldLink RX6 32 "SplitClasses$State" "n" "I", Cond.fieldLink RX6 15 "SplitClasses$State" "nearSets" "[I", Cond.methodLink RX6 82 yJ6_bitCount_0f7a4, Cond.methodLink RX4 24 yX5_cutBy, Cond.instanceMethod yX5_cutBy, Cond.selects RX5 yX5_cutBy yX5_cutBy, Cond.code yX5_cutBy cX5_cutBy 5 none, Cond.methodLink RX5 29 yX5_openPlace, Cond.instanceMethod yX5_openPlace, Cond.selects RX5 yX5_openPlace yX5_openPlace, Cond.code yX5_openPlace cX5_openPlace 3 none]
def wsX4_cutByNearCounts : List Cond := .code yX4_cutByNearCounts cX4_cutByNearCounts 7 none :: ((wsX4_cutByNearCounts_r1 ++ wsX4_cutByNearCounts_r2) ++ wsX40 ++ wsX50 ++ wsX60)
def wsJ6_numberOfTrailingZeros_0f7a4 : List Cond := .code yJ6_numberOfTrailingZeros_0f7a4 cJ6_numberOfTrailingZeros_0f7a4 2 (some .int) :: ([.constant RJ6 264 (65536)])
def wsX5_least : List Cond := .code yX5_least cX5_least 1 (some .int) :: ([.methodLink RX5 40 yJ6_numberOfTrailingZeros_0f7a4, .static yJ6_numberOfTrailingZeros_0f7a4, .initialized RJ6, .code yJ6_numberOfTrailingZeros_0f7a4 cJ6_numberOfTrailingZeros_0f7a4 2 (some .int), .constant RJ6 264 (65536)])
def wsX5_sortByLeast : List Cond := .code yX5_sortByLeast cX5_sortByLeast 4 none :: ([.fieldLink RX5 15 "SplitClasses$Row" "count" "I", .fieldLink RX5 9 "SplitClasses$Row" "sets" "[I", .methodLink RX5 36 yX5_least, .static yX5_least, .initialized RX5, .code yX5_least cX5_least 1 (some .int), .methodLink RX5 40 yJ6_numberOfTrailingZeros_0f7a4, .static yJ6_numberOfTrailingZeros_0f7a4, .initialized RJ6, .code yJ6_numberOfTrailingZeros_0f7a4 cJ6_numberOfTrailingZeros_0f7a4 2 (some .int), .constant RJ6 264 (65536)] ++ wsX50)
def wsX4_settle_r1 : List Cond := [Cond.fieldLink RX4 12 "SplitClasses$Refiner" "before" "LSplitClasses$Row;", Cond.fieldLink RX4 54 "SplitClasses$Row" "count" "I", Cond.methodLink RX4 43 yX5_copyFrom, Cond.instanceMethod yX5_copyFrom, Cond.selects RX5 yX5_copyFrom yX5_copyFrom, Cond.initialized RX5, Cond.code yX5_copyFrom cX5_copyFrom 2 none, Cond.fieldLink RX5 9 "SplitClasses$Row" "sets" "[I", Cond.methodLink RX5 19 arraycopyName, Cond.native arraycopyName, Cond.static arraycopyName, Cond.initialized "java/lang/System", Cond.fieldLink RX5 15 "SplitClasses$Row" "count" "I", Cond.methodLink RX4 47 yX4_cutByLetters, Cond.instanceMethod yX4_cutByLetters, Cond.selects RX4 yX4_cutByLetters yX4_cutByLetters, Cond.initialized RX4, Cond.code yX4_cutByLetters cX4_cutByLetters 5 none, Cond.fieldLink RX4 60 "SplitClasses$State" "letterCount" "I", Cond.methodLink RX4 63 yX5_setAt, Cond.instanceMethod yX5_setAt, Cond.selects RX5 yX5_setAt yX5_setAt, Cond.code yX5_setAt cX5_setAt 2 (some .int), Cond.methodLink RX5 25 yX5_hasPlace]
def wsX4_settle_r2 : List Cond := [Cond.instanceMethod yX5_hasPlace, Cond.selects RX5 yX5_hasPlace yX5_hasPlace, Cond.code yX5_hasPlace cX5_hasPlace 2 (some .boolean), Cond.methodLink RX4 67 yX6_itemsThatGoInto, Cond.instanceMethod yX6_itemsThatGoInto, Cond.selects RX6 yX6_itemsThatGoInto yX6_itemsThatGoInto, Cond.initialized RX6, Cond.code yX6_itemsThatGoInto cX6_itemsThatGoInto 5 (some .int), Cond.fieldLink RX6 32 "SplitClasses$State" "n" "I", Cond.methodLink RX6 101 yX6_leadsTo, Cond.instanceMethod yX6_leadsTo, Cond.selects RX6 yX6_leadsTo yX6_leadsTo, Cond.code yX6_leadsTo cX6_leadsTo 3 (some .int), Cond.fieldLink RX6 18 "SplitClasses$State" "leads" "[I", Cond.methodLink RX6 71 yX6_hasItem, Cond.instanceMethod yX6_hasItem, Cond.selects RX6 yX6_hasItem yX6_hasItem, Cond.code yX6_hasItem cX6_hasItem 2 (some .boolean), Cond.methodLink RX6 75 yX6_hasLetter, Cond.instanceMethod yX6_hasLetter, Cond.selects RX6 yX6_hasLetter yX6_hasLetter, Cond.code yX6_hasLetter cX6_hasLetter 2 (some .boolean), Cond.fieldLink RX6 42 "SplitClasses$State" "letterCount" "I", Cond.methodLink RX4 24 yX5_cutBy]
def wsX4_settle_r3 : List Cond := [Cond.instanceMethod yX5_cutBy, Cond.selects RX5 yX5_cutBy yX5_cutBy, Cond.code yX5_cutBy cX5_cutBy 5 none, Cond.methodLink RX5 29 yX5_openPlace, Cond.instanceMethod yX5_openPlace, Cond.selects RX5 yX5_openPlace yX5_openPlace, Cond.code yX5_openPlace cX5_openPlace 3 none, Cond.methodLink RX4 51 yX4_cutByNearCounts, Cond.instanceMethod yX4_cutByNearCounts, Cond.selects RX4 yX4_cutByNearCounts yX4_cutByNearCounts, Cond.code yX4_cutByNearCounts cX4_cutByNearCounts 7 none, Cond.methodLink RX4 71 yJ6_bitCount_0f7a4, Cond.static yJ6_bitCount_0f7a4, Cond.initialized RJ6, Cond.code yJ6_bitCount_0f7a4 cJ6_bitCount_0f7a4 1 (some .int), Cond.constant RJ6 265 (1431655765), Cond.constant RJ6 266 (858993459), Cond.constant RJ6 267 (252645135), Cond.methodLink RX4 76 yX6_itemsWithNearIn, Cond.instanceMethod yX6_itemsWithNearIn, Cond.selects RX6 yX6_itemsWithNearIn yX6_itemsWithNearIn, Cond.code yX6_itemsWithNearIn cX6_itemsWithNearIn 5 (some .int), Cond.fieldLink RX6 15 "SplitClasses$State" "nearSets" "[I", Cond.methodLink RX6 82 yJ6_bitCount_0f7a4]
def wsX4_settle_r4 : List Cond := [Cond.methodLink RX4 57 yX5_sortByLeast, Cond.instanceMethod yX5_sortByLeast, Cond.selects RX5 yX5_sortByLeast yX5_sortByLeast, Cond.code yX5_sortByLeast cX5_sortByLeast 4 none, Cond.methodLink RX5 36 yX5_least, Cond.static yX5_least, Cond.code yX5_least cX5_least 1 (some .int), Cond.methodLink RX5 40 yJ6_numberOfTrailingZeros_0f7a4, Cond.static yJ6_numberOfTrailingZeros_0f7a4, Cond.code yJ6_numberOfTrailingZeros_0f7a4 cJ6_numberOfTrailingZeros_0f7a4 2 (some .int), Cond.constant RJ6 264 (65536)]
def wsX4_settle : List Cond := .code yX4_settle cX4_settle 5 none :: ((wsX4_settle_r1 ++ (wsX4_settle_r2 ++ (wsX4_settle_r3 ++ wsX4_settle_r4))) ++ wsX40 ++ wsX50 ++ wsX60)
def wsX6_itemsWithColumn : List Cond := .code yX6_itemsWithColumn cX6_itemsWithColumn 4 (some .int) :: ([.fieldLink RX6 32 "SplitClasses$State" "n" "I", .fieldLink RX6 9 "SplitClasses$State" "columnSets" "[I"] ++ wsX60)
def wsX6_setOfKind_r1 : List Cond := [Cond.fieldLink RX6 15 "SplitClasses$State" "nearSets" "[I", Cond.fieldLink RX6 48 "SplitClasses$State" "finalSet" "I", Cond.methodLink RX6 71 yX6_hasItem, Cond.instanceMethod yX6_hasItem, Cond.selects RX6 yX6_hasItem yX6_hasItem, Cond.initialized RX6, Cond.code yX6_hasItem cX6_hasItem 2 (some .boolean), Cond.fieldLink RX6 32 "SplitClasses$State" "n" "I", Cond.methodLink RX6 88 yX6_itemsWithColumn, Cond.instanceMethod yX6_itemsWithColumn, Cond.selects RX6 yX6_itemsWithColumn yX6_itemsWithColumn, Cond.code yX6_itemsWithColumn cX6_itemsWithColumn 4 (some .int), Cond.fieldLink RX6 9 "SplitClasses$State" "columnSets" "[I", Cond.methodLink RX6 91 yX5_setAt, Cond.instanceMethod yX5_setAt, Cond.selects RX5 yX5_setAt yX5_setAt, Cond.initialized RX5, Cond.code yX5_setAt cX5_setAt 2 (some .int), Cond.fieldLink RX5 9 "SplitClasses$Row" "sets" "[I", Cond.methodLink RX5 25 yX5_hasPlace, Cond.instanceMethod yX5_hasPlace, Cond.selects RX5 yX5_hasPlace yX5_hasPlace, Cond.code yX5_hasPlace cX5_hasPlace 2 (some .boolean), Cond.fieldLink RX5 15 "SplitClasses$Row" "count" "I"]
def wsX6_setOfKind_r2 : List Cond := [Cond.methodLink RX6 94 yX6_itemsThatGoInto, Cond.instanceMethod yX6_itemsThatGoInto, Cond.selects RX6 yX6_itemsThatGoInto yX6_itemsThatGoInto, Cond.code yX6_itemsThatGoInto cX6_itemsThatGoInto 5 (some .int), Cond.methodLink RX6 101 yX6_leadsTo, Cond.instanceMethod yX6_leadsTo, Cond.selects RX6 yX6_leadsTo yX6_leadsTo, Cond.code yX6_leadsTo cX6_leadsTo 3 (some .int), Cond.fieldLink RX6 18 "SplitClasses$State" "leads" "[I", Cond.methodLink RX6 75 yX6_hasLetter, Cond.instanceMethod yX6_hasLetter, Cond.selects RX6 yX6_hasLetter yX6_hasLetter, Cond.code yX6_hasLetter cX6_hasLetter 2 (some .boolean), Cond.fieldLink RX6 42 "SplitClasses$State" "letterCount" "I", Cond.methodLink RX6 98 yX6_itemsWithNearIn, Cond.instanceMethod yX6_itemsWithNearIn, Cond.selects RX6 yX6_itemsWithNearIn yX6_itemsWithNearIn, Cond.code yX6_itemsWithNearIn cX6_itemsWithNearIn 5 (some .int), Cond.methodLink RX6 82 yJ6_bitCount_0f7a4, Cond.static yJ6_bitCount_0f7a4, Cond.initialized RJ6, Cond.code yJ6_bitCount_0f7a4 cJ6_bitCount_0f7a4 1 (some .int), Cond.constant RJ6 265 (1431655765), Cond.constant RJ6 266 (858993459)]
def wsX6_setOfKind_r3 : List Cond := [Cond.constant RJ6 267 (252645135)]
def wsX6_setOfKind : List Cond := .code yX6_setOfKind cX6_setOfKind 5 (some .int) :: ((wsX6_setOfKind_r1 ++ (wsX6_setOfKind_r2 ++ wsX6_setOfKind_r3)) ++ wsX60 ++ wsX50)
def wsX4_cutByAll_r1 : List Cond := [Cond.fieldLink RX4 36 "SplitClasses$State" "n" "I", Cond.methodLink RX4 39 yX6_setOfKind, Cond.instanceMethod yX6_setOfKind, Cond.selects RX6 yX6_setOfKind yX6_setOfKind, Cond.initialized RX6, Cond.code yX6_setOfKind cX6_setOfKind 5 (some .int), Cond.fieldLink RX6 15 "SplitClasses$State" "nearSets" "[I", Cond.fieldLink RX6 48 "SplitClasses$State" "finalSet" "I", Cond.methodLink RX6 71 yX6_hasItem, Cond.instanceMethod yX6_hasItem, Cond.selects RX6 yX6_hasItem yX6_hasItem, Cond.code yX6_hasItem cX6_hasItem 2 (some .boolean), Cond.fieldLink RX6 32 "SplitClasses$State" "n" "I", Cond.methodLink RX6 88 yX6_itemsWithColumn, Cond.instanceMethod yX6_itemsWithColumn, Cond.selects RX6 yX6_itemsWithColumn yX6_itemsWithColumn, Cond.code yX6_itemsWithColumn cX6_itemsWithColumn 4 (some .int), Cond.fieldLink RX6 9 "SplitClasses$State" "columnSets" "[I", Cond.methodLink RX6 91 yX5_setAt, Cond.instanceMethod yX5_setAt, Cond.selects RX5 yX5_setAt yX5_setAt, Cond.initialized RX5, Cond.code yX5_setAt cX5_setAt 2 (some .int), Cond.fieldLink RX5 9 "SplitClasses$Row" "sets" "[I"]
def wsX4_cutByAll_r2 : List Cond := [Cond.methodLink RX5 25 yX5_hasPlace, Cond.instanceMethod yX5_hasPlace, Cond.selects RX5 yX5_hasPlace yX5_hasPlace, Cond.code yX5_hasPlace cX5_hasPlace 2 (some .boolean), Cond.fieldLink RX5 15 "SplitClasses$Row" "count" "I", Cond.methodLink RX6 94 yX6_itemsThatGoInto, Cond.instanceMethod yX6_itemsThatGoInto, Cond.selects RX6 yX6_itemsThatGoInto yX6_itemsThatGoInto, Cond.code yX6_itemsThatGoInto cX6_itemsThatGoInto 5 (some .int), Cond.methodLink RX6 101 yX6_leadsTo, Cond.instanceMethod yX6_leadsTo, Cond.selects RX6 yX6_leadsTo yX6_leadsTo, Cond.code yX6_leadsTo cX6_leadsTo 3 (some .int), Cond.fieldLink RX6 18 "SplitClasses$State" "leads" "[I", Cond.methodLink RX6 75 yX6_hasLetter, Cond.instanceMethod yX6_hasLetter, Cond.selects RX6 yX6_hasLetter yX6_hasLetter, Cond.code yX6_hasLetter cX6_hasLetter 2 (some .boolean), Cond.fieldLink RX6 42 "SplitClasses$State" "letterCount" "I", Cond.methodLink RX6 98 yX6_itemsWithNearIn, Cond.instanceMethod yX6_itemsWithNearIn, Cond.selects RX6 yX6_itemsWithNearIn yX6_itemsWithNearIn, Cond.code yX6_itemsWithNearIn cX6_itemsWithNearIn 5 (some .int), Cond.methodLink RX6 82 yJ6_bitCount_0f7a4]
def wsX4_cutByAll_r3 : List Cond := [Cond.static yJ6_bitCount_0f7a4, Cond.initialized RJ6, Cond.code yJ6_bitCount_0f7a4 cJ6_bitCount_0f7a4 1 (some .int), Cond.constant RJ6 265 (1431655765), Cond.constant RJ6 266 (858993459), Cond.constant RJ6 267 (252645135), Cond.methodLink RX4 24 yX5_cutBy, Cond.instanceMethod yX5_cutBy, Cond.selects RX5 yX5_cutBy yX5_cutBy, Cond.code yX5_cutBy cX5_cutBy 5 none, Cond.methodLink RX5 29 yX5_openPlace, Cond.instanceMethod yX5_openPlace, Cond.selects RX5 yX5_openPlace yX5_openPlace, Cond.code yX5_openPlace cX5_openPlace 3 none]
def wsX4_cutByAll : List Cond := .code yX4_cutByAll cX4_cutByAll 6 none :: ((wsX4_cutByAll_r1 ++ (wsX4_cutByAll_r2 ++ wsX4_cutByAll_r3)) ++ wsX60 ++ wsX50)
def wsX4_refineRow_r1 : List Cond := [Cond.fieldLink RX4 18 "SplitClasses$State" "finalSet" "I", Cond.methodLink RX4 24 yX5_cutBy, Cond.instanceMethod yX5_cutBy, Cond.selects RX5 yX5_cutBy yX5_cutBy, Cond.initialized RX5, Cond.code yX5_cutBy cX5_cutBy 5 none, Cond.fieldLink RX5 15 "SplitClasses$Row" "count" "I", Cond.fieldLink RX5 9 "SplitClasses$Row" "sets" "[I", Cond.methodLink RX5 29 yX5_openPlace, Cond.instanceMethod yX5_openPlace, Cond.selects RX5 yX5_openPlace yX5_openPlace, Cond.code yX5_openPlace cX5_openPlace 3 none, Cond.methodLink RX4 28 yX4_settle, Cond.instanceMethod yX4_settle, Cond.selects RX4 yX4_settle yX4_settle, Cond.initialized RX4, Cond.code yX4_settle cX4_settle 5 none, Cond.fieldLink RX4 12 "SplitClasses$Refiner" "before" "LSplitClasses$Row;", Cond.fieldLink RX4 54 "SplitClasses$Row" "count" "I", Cond.methodLink RX4 43 yX5_copyFrom, Cond.instanceMethod yX5_copyFrom, Cond.selects RX5 yX5_copyFrom yX5_copyFrom, Cond.code yX5_copyFrom cX5_copyFrom 2 none, Cond.methodLink RX5 19 arraycopyName]
def wsX4_refineRow_r2 : List Cond := [Cond.native arraycopyName, Cond.static arraycopyName, Cond.initialized "java/lang/System", Cond.methodLink RX4 47 yX4_cutByLetters, Cond.instanceMethod yX4_cutByLetters, Cond.selects RX4 yX4_cutByLetters yX4_cutByLetters, Cond.code yX4_cutByLetters cX4_cutByLetters 5 none, Cond.fieldLink RX4 60 "SplitClasses$State" "letterCount" "I", Cond.methodLink RX4 63 yX5_setAt, Cond.instanceMethod yX5_setAt, Cond.selects RX5 yX5_setAt yX5_setAt, Cond.code yX5_setAt cX5_setAt 2 (some .int), Cond.methodLink RX5 25 yX5_hasPlace, Cond.instanceMethod yX5_hasPlace, Cond.selects RX5 yX5_hasPlace yX5_hasPlace, Cond.code yX5_hasPlace cX5_hasPlace 2 (some .boolean), Cond.methodLink RX4 67 yX6_itemsThatGoInto, Cond.instanceMethod yX6_itemsThatGoInto, Cond.selects RX6 yX6_itemsThatGoInto yX6_itemsThatGoInto, Cond.initialized RX6, Cond.code yX6_itemsThatGoInto cX6_itemsThatGoInto 5 (some .int), Cond.fieldLink RX6 32 "SplitClasses$State" "n" "I", Cond.methodLink RX6 101 yX6_leadsTo, Cond.instanceMethod yX6_leadsTo]
def wsX4_refineRow_r3 : List Cond := [Cond.selects RX6 yX6_leadsTo yX6_leadsTo, Cond.code yX6_leadsTo cX6_leadsTo 3 (some .int), Cond.fieldLink RX6 18 "SplitClasses$State" "leads" "[I", Cond.methodLink RX6 71 yX6_hasItem, Cond.instanceMethod yX6_hasItem, Cond.selects RX6 yX6_hasItem yX6_hasItem, Cond.code yX6_hasItem cX6_hasItem 2 (some .boolean), Cond.methodLink RX6 75 yX6_hasLetter, Cond.instanceMethod yX6_hasLetter, Cond.selects RX6 yX6_hasLetter yX6_hasLetter, Cond.code yX6_hasLetter cX6_hasLetter 2 (some .boolean), Cond.fieldLink RX6 42 "SplitClasses$State" "letterCount" "I", Cond.methodLink RX4 51 yX4_cutByNearCounts, Cond.instanceMethod yX4_cutByNearCounts, Cond.selects RX4 yX4_cutByNearCounts yX4_cutByNearCounts, Cond.code yX4_cutByNearCounts cX4_cutByNearCounts 7 none, Cond.methodLink RX4 71 yJ6_bitCount_0f7a4, Cond.static yJ6_bitCount_0f7a4, Cond.initialized RJ6, Cond.code yJ6_bitCount_0f7a4 cJ6_bitCount_0f7a4 1 (some .int), Cond.constant RJ6 265 (1431655765), Cond.constant RJ6 266 (858993459), Cond.constant RJ6 267 (252645135), Cond.methodLink RX4 76 yX6_itemsWithNearIn]
def wsX4_refineRow_r4 : List Cond := [Cond.instanceMethod yX6_itemsWithNearIn, Cond.selects RX6 yX6_itemsWithNearIn yX6_itemsWithNearIn, Cond.code yX6_itemsWithNearIn cX6_itemsWithNearIn 5 (some .int), Cond.fieldLink RX6 15 "SplitClasses$State" "nearSets" "[I", Cond.methodLink RX6 82 yJ6_bitCount_0f7a4, Cond.methodLink RX4 57 yX5_sortByLeast, Cond.instanceMethod yX5_sortByLeast, Cond.selects RX5 yX5_sortByLeast yX5_sortByLeast, Cond.code yX5_sortByLeast cX5_sortByLeast 4 none, Cond.methodLink RX5 36 yX5_least, Cond.static yX5_least, Cond.code yX5_least cX5_least 1 (some .int), Cond.methodLink RX5 40 yJ6_numberOfTrailingZeros_0f7a4, Cond.static yJ6_numberOfTrailingZeros_0f7a4, Cond.code yJ6_numberOfTrailingZeros_0f7a4 cJ6_numberOfTrailingZeros_0f7a4 2 (some .int), Cond.constant RJ6 264 (65536), Cond.methodLink RX4 32 yX4_cutByAll, Cond.instanceMethod yX4_cutByAll, Cond.selects RX4 yX4_cutByAll yX4_cutByAll, Cond.code yX4_cutByAll cX4_cutByAll 6 none, Cond.fieldLink RX4 36 "SplitClasses$State" "n" "I", Cond.methodLink RX4 39 yX6_setOfKind, Cond.instanceMethod yX6_setOfKind, Cond.selects RX6 yX6_setOfKind yX6_setOfKind]
def wsX4_refineRow_r5 : List Cond := [Cond.code yX6_setOfKind cX6_setOfKind 5 (some .int), Cond.fieldLink RX6 48 "SplitClasses$State" "finalSet" "I", Cond.methodLink RX6 88 yX6_itemsWithColumn, Cond.instanceMethod yX6_itemsWithColumn, Cond.selects RX6 yX6_itemsWithColumn yX6_itemsWithColumn, Cond.code yX6_itemsWithColumn cX6_itemsWithColumn 4 (some .int), Cond.fieldLink RX6 9 "SplitClasses$State" "columnSets" "[I", Cond.methodLink RX6 91 yX5_setAt, Cond.methodLink RX6 94 yX6_itemsThatGoInto, Cond.methodLink RX6 98 yX6_itemsWithNearIn]
def wsX4_refineRow : List Cond := .code yX4_refineRow cX4_refineRow 4 none :: ((wsX4_refineRow_r1 ++ (wsX4_refineRow_r2 ++ (wsX4_refineRow_r3 ++ (wsX4_refineRow_r4 ++ wsX4_refineRow_r5)))) ++ wsX60 ++ wsX50 ++ wsX40)
def wsX4_shortestWordApart_r1 : List Cond := [Cond.fieldLink RX4 18 "SplitClasses$State" "finalSet" "I", Cond.fieldLink RX4 12 "SplitClasses$Refiner" "before" "LSplitClasses$Row;", Cond.fieldLink RX4 54 "SplitClasses$Row" "count" "I", Cond.methodLink RX4 79 yX6_all, Cond.instanceMethod yX6_all, Cond.selects RX6 yX6_all yX6_all, Cond.initialized RX6, Cond.code yX6_all cX6_all 1 (some .int), Cond.fieldLink RX6 32 "SplitClasses$State" "n" "I", Cond.methodLink RX4 83 yX5_gather, Cond.instanceMethod yX5_gather, Cond.selects RX5 yX5_gather yX5_gather, Cond.initialized RX5, Cond.code yX5_gather cX5_gather 2 none, Cond.fieldLink RX5 9 "SplitClasses$Row" "sets" "[I", Cond.fieldLink RX5 15 "SplitClasses$Row" "count" "I", Cond.methodLink RX4 24 yX5_cutBy, Cond.instanceMethod yX5_cutBy, Cond.selects RX5 yX5_cutBy yX5_cutBy, Cond.code yX5_cutBy cX5_cutBy 5 none, Cond.methodLink RX5 29 yX5_openPlace, Cond.instanceMethod yX5_openPlace, Cond.selects RX5 yX5_openPlace yX5_openPlace, Cond.code yX5_openPlace cX5_openPlace 3 none]
def wsX4_shortestWordApart_r2 : List Cond := [Cond.methodLink RX4 86 yX5_placeOf, Cond.instanceMethod yX5_placeOf, Cond.selects RX5 yX5_placeOf yX5_placeOf, Cond.code yX5_placeOf cX5_placeOf 3 (some .int), Cond.methodLink RX4 43 yX5_copyFrom, Cond.instanceMethod yX5_copyFrom, Cond.selects RX5 yX5_copyFrom yX5_copyFrom, Cond.code yX5_copyFrom cX5_copyFrom 2 none, Cond.methodLink RX5 19 arraycopyName, Cond.native arraycopyName, Cond.static arraycopyName, Cond.initialized "java/lang/System", Cond.methodLink RX4 47 yX4_cutByLetters, Cond.instanceMethod yX4_cutByLetters, Cond.selects RX4 yX4_cutByLetters yX4_cutByLetters, Cond.initialized RX4, Cond.code yX4_cutByLetters cX4_cutByLetters 5 none, Cond.fieldLink RX4 60 "SplitClasses$State" "letterCount" "I", Cond.methodLink RX4 63 yX5_setAt, Cond.instanceMethod yX5_setAt, Cond.selects RX5 yX5_setAt yX5_setAt, Cond.code yX5_setAt cX5_setAt 2 (some .int), Cond.methodLink RX5 25 yX5_hasPlace, Cond.instanceMethod yX5_hasPlace]
def wsX4_shortestWordApart_r3 : List Cond := [Cond.selects RX5 yX5_hasPlace yX5_hasPlace, Cond.code yX5_hasPlace cX5_hasPlace 2 (some .boolean), Cond.methodLink RX4 67 yX6_itemsThatGoInto, Cond.instanceMethod yX6_itemsThatGoInto, Cond.selects RX6 yX6_itemsThatGoInto yX6_itemsThatGoInto, Cond.code yX6_itemsThatGoInto cX6_itemsThatGoInto 5 (some .int), Cond.methodLink RX6 101 yX6_leadsTo, Cond.instanceMethod yX6_leadsTo, Cond.selects RX6 yX6_leadsTo yX6_leadsTo, Cond.code yX6_leadsTo cX6_leadsTo 3 (some .int), Cond.fieldLink RX6 18 "SplitClasses$State" "leads" "[I", Cond.methodLink RX6 71 yX6_hasItem, Cond.instanceMethod yX6_hasItem, Cond.selects RX6 yX6_hasItem yX6_hasItem, Cond.code yX6_hasItem cX6_hasItem 2 (some .boolean), Cond.methodLink RX6 75 yX6_hasLetter, Cond.instanceMethod yX6_hasLetter, Cond.selects RX6 yX6_hasLetter yX6_hasLetter, Cond.code yX6_hasLetter cX6_hasLetter 2 (some .boolean), Cond.fieldLink RX6 42 "SplitClasses$State" "letterCount" "I"]
def wsX4_shortestWordApart : List Cond := .code yX4_shortestWordApart cX4_shortestWordApart 6 (some .int) :: ((wsX4_shortestWordApart_r1 ++ (wsX4_shortestWordApart_r2 ++ wsX4_shortestWordApart_r3)) ++ wsX60 ++ wsX40 ++ wsX50)
def wsX5_closePlace : List Cond := .code yX5_closePlace cX5_closePlace 3 none :: ([.fieldLink RX5 15 "SplitClasses$Row" "count" "I", .fieldLink RX5 9 "SplitClasses$Row" "sets" "[I"] ++ wsX50)
def wsX5_mergeWithNext : List Cond := .code yX5_mergeWithNext cX5_mergeWithNext 3 none :: ([.fieldLink RX5 15 "SplitClasses$Row" "count" "I", .fieldLink RX5 9 "SplitClasses$Row" "sets" "[I", .methodLink RX5 25 yX5_hasPlace, .instanceMethod yX5_hasPlace, .selects RX5 yX5_hasPlace yX5_hasPlace, .initialized RX5, .code yX5_hasPlace cX5_hasPlace 2 (some .boolean), .methodLink RX5 33 yX5_closePlace, .instanceMethod yX5_closePlace, .selects RX5 yX5_closePlace yX5_closePlace, .code yX5_closePlace cX5_closePlace 3 none] ++ wsX50)
def wsX5_differingFrom : List Cond := .code yX5_differingFrom cX5_differingFrom 4 (some .int) :: ([.fieldLink RX5 15 "SplitClasses$Row" "count" "I", .fieldLink RX5 9 "SplitClasses$Row" "sets" "[I", .methodLink RX5 45 yX5_setAt, .instanceMethod yX5_setAt, .selects RX5 yX5_setAt yX5_setAt, .initialized RX5, .code yX5_setAt cX5_setAt 2 (some .int), .methodLink RX5 25 yX5_hasPlace, .instanceMethod yX5_hasPlace, .selects RX5 yX5_hasPlace yX5_hasPlace, .code yX5_hasPlace cX5_hasPlace 2 (some .boolean)] ++ wsX50)
def wsX5_takeLeast : List Cond := .code yX5_takeLeast cX5_takeLeast 2 (some .int) :: ([.fieldLink RX5 15 "SplitClasses$Row" "count" "I", .fieldLink RX5 9 "SplitClasses$Row" "sets" "[I", .methodLink RX5 36 yX5_least, .static yX5_least, .initialized RX5, .code yX5_least cX5_least 1 (some .int), .methodLink RX5 40 yJ6_numberOfTrailingZeros_0f7a4, .static yJ6_numberOfTrailingZeros_0f7a4, .initialized RJ6, .code yJ6_numberOfTrailingZeros_0f7a4 cJ6_numberOfTrailingZeros_0f7a4 2 (some .int), .constant RJ6 264 (65536), .methodLink RX5 33 yX5_closePlace, .instanceMethod yX5_closePlace, .selects RX5 yX5_closePlace yX5_closePlace, .code yX5_closePlace cX5_closePlace 3 none] ++ wsX50)
def wsX6_hasItemsOf : List Cond := .code yX6_hasItemsOf cX6_hasItemsOf 2 (some .boolean) :: ([.methodLink RX6 51 yX6_all, .instanceMethod yX6_all, .selects RX6 yX6_all yX6_all, .initialized RX6, .code yX6_all cX6_all 1 (some .int), .fieldLink RX6 32 "SplitClasses$State" "n" "I"] ++ wsX60)
def wsX6_isEdge : List Cond := .code yX6_isEdge cX6_isEdge 3 (some .boolean) :: ([.fieldLink RX6 15 "SplitClasses$State" "nearSets" "[I", .methodLink RX6 71 yX6_hasItem, .instanceMethod yX6_hasItem, .selects RX6 yX6_hasItem yX6_hasItem, .initialized RX6, .code yX6_hasItem cX6_hasItem 2 (some .boolean), .fieldLink RX6 32 "SplitClasses$State" "n" "I"] ++ wsX60)
def wsX6_edgeCount : List Cond := .code yX6_edgeCount cX6_edgeCount 3 (some .int) :: ([.fieldLink RX6 32 "SplitClasses$State" "n" "I", .fieldLink RX6 15 "SplitClasses$State" "nearSets" "[I", .methodLink RX6 82 yJ6_bitCount_0f7a4, .static yJ6_bitCount_0f7a4, .initialized RJ6, .code yJ6_bitCount_0f7a4 cJ6_bitCount_0f7a4 1 (some .int), .constant RJ6 265 (1431655765), .constant RJ6 266 (858993459), .constant RJ6 267 (252645135)] ++ wsX60)
def wsX7_init : List Cond := .code yX7_init cX7_init 1 none :: ([.methodLink RX7 3 objectInit, .instanceMethod objectInit, .code objectInit ⟨#[0xb1]⟩ 1 none, .arrayClass .int, .fieldLink RX7 9 "SplitClasses$Walk" "order" "[I", .classLink RX7 15 RX5, .instantiable RX5 2, .initialized RX5, .fieldLink RX7 18 "SplitClasses$Walk" "row" "LSplitClasses$Row;", .fieldLink RX7 22 "SplitClasses$Walk" "earlier" "[I", .methodLink RX7 17 yX5_init, .instanceMethod yX5_init, .code yX5_init cX5_init 1 none, .methodLink RX5 3 objectInit, .fieldLink RX5 9 "SplitClasses$Row" "sets" "[I", .fieldLink RX5 15 "SplitClasses$Row" "count" "I"] ++ wsX70 ++ wsX50)
def wsX7_walkFrom_r1 : List Cond := [Cond.fieldLink RX7 18 "SplitClasses$Walk" "row" "LSplitClasses$Row;", Cond.fieldLink RX7 38 "SplitClasses$State" "n" "I", Cond.fieldLink RX7 9 "SplitClasses$Walk" "order" "[I", Cond.fieldLink RX7 22 "SplitClasses$Walk" "earlier" "[I", Cond.fieldLink RX7 49 "SplitClasses$State" "nearSets" "[I", Cond.methodLink RX7 25 yX6_all, Cond.instanceMethod yX6_all, Cond.selects RX6 yX6_all yX6_all, Cond.initialized RX6, Cond.code yX6_all cX6_all 1 (some .int), Cond.fieldLink RX6 32 "SplitClasses$State" "n" "I", Cond.methodLink RX7 31 yX5_gather, Cond.instanceMethod yX5_gather, Cond.selects RX5 yX5_gather yX5_gather, Cond.initialized RX5, Cond.code yX5_gather cX5_gather 2 none, Cond.fieldLink RX5 9 "SplitClasses$Row" "sets" "[I", Cond.fieldLink RX5 15 "SplitClasses$Row" "count" "I", Cond.methodLink RX7 35 yX5_cutBy, Cond.instanceMethod yX5_cutBy, Cond.selects RX5 yX5_cutBy yX5_cutBy, Cond.code yX5_cutBy cX5_cutBy 5 none, Cond.methodLink RX5 29 yX5_openPlace, Cond.instanceMethod yX5_openPlace]
def wsX7_walkFrom_r2 : List Cond := [Cond.selects RX5 yX5_openPlace yX5_openPlace, Cond.code yX5_openPlace cX5_openPlace 3 none, Cond.methodLink RX7 42 yX5_takeLeast, Cond.instanceMethod yX5_takeLeast, Cond.selects RX5 yX5_takeLeast yX5_takeLeast, Cond.code yX5_takeLeast cX5_takeLeast 2 (some .int), Cond.methodLink RX5 36 yX5_least, Cond.static yX5_least, Cond.code yX5_least cX5_least 1 (some .int), Cond.methodLink RX5 40 yJ6_numberOfTrailingZeros_0f7a4, Cond.static yJ6_numberOfTrailingZeros_0f7a4, Cond.initialized RJ6, Cond.code yJ6_numberOfTrailingZeros_0f7a4 cJ6_numberOfTrailingZeros_0f7a4 2 (some .int), Cond.constant RJ6 264 (65536), Cond.methodLink RX5 33 yX5_closePlace, Cond.instanceMethod yX5_closePlace, Cond.selects RX5 yX5_closePlace yX5_closePlace, Cond.code yX5_closePlace cX5_closePlace 3 none, Cond.methodLink RX7 45 yX6_hasItem, Cond.instanceMethod yX6_hasItem, Cond.selects RX6 yX6_hasItem yX6_hasItem, Cond.code yX6_hasItem cX6_hasItem 2 (some .boolean)]
def wsX7_walkFrom : List Cond := .code yX7_walkFrom cX7_walkFrom 6 none :: ((wsX7_walkFrom_r1 ++ wsX7_walkFrom_r2) ++ wsX70 ++ wsX60 ++ wsX50)
def wsX7_nearAhead : List Cond := .code yX7_nearAhead cX7_nearAhead 3 (some .int) :: ([.fieldLink RX7 49 "SplitClasses$State" "nearSets" "[I", .fieldLink RX7 9 "SplitClasses$Walk" "order" "[I", .fieldLink RX7 22 "SplitClasses$Walk" "earlier" "[I"] ++ wsX60 ++ wsX70)
def wsX7_lastOf : List Cond := .code yX7_lastOf cX7_lastOf 4 (some .int) :: ([.fieldLink RX7 9 "SplitClasses$Walk" "order" "[I"] ++ wsX70)
def wsX7_fault : List Cond := .code yX7_fault cX7_fault 5 (some .int) :: ([.fieldLink RX7 38 "SplitClasses$State" "n" "I", .fieldLink RX7 49 "SplitClasses$State" "nearSets" "[I", .fieldLink RX7 9 "SplitClasses$Walk" "order" "[I", .methodLink RX7 52 yX7_nearAhead, .instanceMethod yX7_nearAhead, .selects RX7 yX7_nearAhead yX7_nearAhead, .initialized RX7, .code yX7_nearAhead cX7_nearAhead 3 (some .int), .fieldLink RX7 22 "SplitClasses$Walk" "earlier" "[I", .methodLink RX7 56 yX7_lastOf, .instanceMethod yX7_lastOf, .selects RX7 yX7_lastOf yX7_lastOf, .code yX7_lastOf cX7_lastOf 4 (some .int)] ++ wsX60 ++ wsX70)
def wsX7_clique : List Cond := .code yX7_clique cX7_clique 4 (some .int) :: ([.fieldLink RX7 38 "SplitClasses$State" "n" "I", .methodLink RX7 66 Lib.Math.max.name, .static Lib.Math.max.name, .initialized "java/lang/Math", .code Lib.Math.max.name Lib.Math.max.code 2 (some .int), .methodLink RX7 52 yX7_nearAhead, .instanceMethod yX7_nearAhead, .selects RX7 yX7_nearAhead yX7_nearAhead, .initialized RX7, .code yX7_nearAhead cX7_nearAhead 3 (some .int), .fieldLink RX7 49 "SplitClasses$State" "nearSets" "[I", .fieldLink RX7 9 "SplitClasses$Walk" "order" "[I", .fieldLink RX7 22 "SplitClasses$Walk" "earlier" "[I", .methodLink RX7 60 yJ6_bitCount_0f7a4, .static yJ6_bitCount_0f7a4, .initialized RJ6, .code yJ6_bitCount_0f7a4 cJ6_bitCount_0f7a4 1 (some .int), .constant RJ6 265 (1431655765), .constant RJ6 266 (858993459), .constant RJ6 267 (252645135)] ++ wsX60 ++ wsX70)
def wsX8_init_r1 : List Cond := [Cond.methodLink RX8 1 objectInit, Cond.instanceMethod objectInit, Cond.code objectInit ⟨#[0xb1]⟩ 1 none, Cond.classLink RX8 7 RX6, Cond.instantiable RX6 8, Cond.initialized RX6, Cond.fieldLink RX8 10 "SplitClasses" "now" "LSplitClasses$State;", Cond.classLink RX8 16 RX2, Cond.instantiable RX2 3, Cond.initialized RX2, Cond.fieldLink RX8 19 "SplitClasses" "history" "LSplitClasses$History;", Cond.classLink RX8 23 RX0, Cond.instantiable RX0 3, Cond.initialized RX0, Cond.fieldLink RX8 26 "SplitClasses" "book" "LSplitClasses$Book;", Cond.classLink RX8 30 RX3, Cond.fieldLink RX8 32 "SplitClasses" "images" "[LSplitClasses$Image;", Cond.instantiable RX3 3, Cond.initialized RX3, Cond.classLink RX8 37 RX4, Cond.instantiable RX4 1, Cond.initialized RX4, Cond.fieldLink RX8 40 "SplitClasses" "refiner" "LSplitClasses$Refiner;", Cond.classLink RX8 44 RX7]
def wsX8_init_r2 : List Cond := [Cond.instantiable RX7 3, Cond.initialized RX7, Cond.fieldLink RX8 47 "SplitClasses" "walk" "LSplitClasses$Walk;", Cond.classLink RX8 51 RX5, Cond.instantiable RX5 2, Cond.initialized RX5, Cond.fieldLink RX8 54 "SplitClasses" "aside" "LSplitClasses$Row;", Cond.classLink RX8 58 RX1, Cond.instantiable RX1 1, Cond.initialized RX1, Cond.fieldLink RX8 61 "SplitClasses" "draws" "LSplitClasses$Draws;", Cond.methodLink RX8 9 yX6_init, Cond.instanceMethod yX6_init, Cond.code yX6_init cX6_init 1 none, Cond.methodLink RX6 3 objectInit, Cond.arrayClass .int, Cond.fieldLink RX6 9 "SplitClasses$State" "columnSets" "[I", Cond.fieldLink RX6 15 "SplitClasses$State" "nearSets" "[I", Cond.fieldLink RX6 18 "SplitClasses$State" "leads" "[I", Cond.classLink RX6 21 RX5, Cond.fieldLink RX6 24 "SplitClasses$State" "row" "LSplitClasses$Row;", Cond.methodLink RX6 23 yX5_init, Cond.instanceMethod yX5_init, Cond.code yX5_init cX5_init 1 none]
def wsX8_init_r3 : List Cond := [Cond.methodLink RX5 3 objectInit, Cond.fieldLink RX5 9 "SplitClasses$Row" "sets" "[I", Cond.fieldLink RX5 15 "SplitClasses$Row" "count" "I", Cond.methodLink RX6 28 yX6_startWith, Cond.instanceMethod yX6_startWith, Cond.selects RX6 yX6_startWith yX6_startWith, Cond.code yX6_startWith cX6_startWith 2 none, Cond.fieldLink RX6 32 "SplitClasses$State" "n" "I", Cond.fieldLink RX6 42 "SplitClasses$State" "letterCount" "I", Cond.fieldLink RX6 48 "SplitClasses$State" "finalSet" "I", Cond.fieldLink RX6 58 "SplitClasses$State" "work" "I", Cond.methodLink RX6 36 yJ7_fill_53178, Cond.static yJ7_fill_53178, Cond.initialized RJ7, Cond.code yJ7_fill_53178 cJ7_fill_53178 4 none, Cond.methodLink RX6 45 yX6_takeLetters, Cond.instanceMethod yX6_takeLetters, Cond.selects RX6 yX6_takeLetters yX6_takeLetters, Cond.code yX6_takeLetters cX6_takeLetters 5 none, Cond.methodLink RX6 78 yX6_lead, Cond.instanceMethod yX6_lead, Cond.selects RX6 yX6_lead yX6_lead, Cond.code yX6_lead cX6_lead 4 none, Cond.methodLink RX6 71 yX6_hasItem]
def wsX8_init_r4 : List Cond := [Cond.instanceMethod yX6_hasItem, Cond.selects RX6 yX6_hasItem yX6_hasItem, Cond.code yX6_hasItem cX6_hasItem 2 (some .boolean), Cond.methodLink RX6 75 yX6_hasLetter, Cond.instanceMethod yX6_hasLetter, Cond.selects RX6 yX6_hasLetter yX6_hasLetter, Cond.code yX6_hasLetter cX6_hasLetter 2 (some .boolean), Cond.methodLink RX6 51 yX6_all, Cond.instanceMethod yX6_all, Cond.selects RX6 yX6_all yX6_all, Cond.code yX6_all cX6_all 1 (some .int), Cond.methodLink RX6 55 yX5_gather, Cond.instanceMethod yX5_gather, Cond.selects RX5 yX5_gather yX5_gather, Cond.code yX5_gather cX5_gather 2 none, Cond.methodLink RX8 18 yX2_init, Cond.instanceMethod yX2_init, Cond.code yX2_init cX2_init 2 none, Cond.methodLink RX2 3 objectInit, Cond.classLink RX2 9 RX6, Cond.fieldLink RX2 11 "SplitClasses$History" "ring" "[LSplitClasses$State;", Cond.fieldLink RX2 18 "SplitClasses$History" "next" "I", Cond.fieldLink RX2 22 "SplitClasses$History" "count" "I", Cond.methodLink RX2 17 yX6_init]
def wsX8_init_r5 : List Cond := [Cond.methodLink RX8 25 yX0_init, Cond.instanceMethod yX0_init, Cond.code yX0_init cX0_init 1 none, Cond.methodLink RX0 3 objectInit, Cond.fieldLink RX0 9 "SplitClasses$Book" "entryItems" "[I", Cond.fieldLink RX0 15 "SplitClasses$Book" "entryClasses" "[I", Cond.fieldLink RX0 18 "SplitClasses$Book" "size" "I", Cond.methodLink RX8 36 yX3_init, Cond.instanceMethod yX3_init, Cond.code yX3_init cX3_init 1 none, Cond.methodLink RX3 1 objectInit, Cond.fieldLink RX3 7 "SplitClasses$Image" "kept" "Z", Cond.fieldLink RX3 13 "SplitClasses$Image" "drawState" "I", Cond.classLink RX3 17 RX6, Cond.fieldLink RX3 20 "SplitClasses$Image" "state" "LSplitClasses$State;", Cond.methodLink RX3 19 yX6_init, Cond.methodLink RX8 39 yX4_init, Cond.instanceMethod yX4_init, Cond.code yX4_init cX4_init 1 none, Cond.methodLink RX4 3 objectInit, Cond.classLink RX4 9 RX5, Cond.fieldLink RX4 12 "SplitClasses$Refiner" "before" "LSplitClasses$Row;", Cond.methodLink RX4 11 yX5_init, Cond.methodLink RX8 46 yX7_init]
def wsX8_init_r6 : List Cond := [Cond.instanceMethod yX7_init, Cond.code yX7_init cX7_init 1 none, Cond.methodLink RX7 3 objectInit, Cond.fieldLink RX7 9 "SplitClasses$Walk" "order" "[I", Cond.classLink RX7 15 RX5, Cond.fieldLink RX7 18 "SplitClasses$Walk" "row" "LSplitClasses$Row;", Cond.fieldLink RX7 22 "SplitClasses$Walk" "earlier" "[I", Cond.methodLink RX7 17 yX5_init, Cond.methodLink RX8 53 yX5_init, Cond.methodLink RX8 60 yX1_init, Cond.instanceMethod yX1_init, Cond.code yX1_init cX1_init 1 none, Cond.methodLink RX1 3 objectInit, Cond.fieldLink RX1 9 "SplitClasses$Draws" "state" "I"]
def wsX8_init : List Cond := .code yX8_init cX8_init 2 none :: ((wsX8_init_r1 ++ (wsX8_init_r2 ++ (wsX8_init_r3 ++ (wsX8_init_r4 ++ (wsX8_init_r5 ++ wsX8_init_r6))))) ++ wsX60 ++ wsX80 ++ wsX20 ++ wsX00 ++ wsX30 ++ wsX40 ++ wsX70 ++ wsX50 ++ wsX10)
def wsX8_refineAside_r1 : List Cond := [Cond.fieldLink RX8 54 "SplitClasses" "aside" "LSplitClasses$Row;", Cond.fieldLink RX8 10 "SplitClasses" "now" "LSplitClasses$State;", Cond.fieldLink RX8 40 "SplitClasses" "refiner" "LSplitClasses$Refiner;", Cond.methodLink RX8 191 yX6_all, Cond.instanceMethod yX6_all, Cond.selects RX6 yX6_all yX6_all, Cond.initialized RX6, Cond.code yX6_all cX6_all 1 (some .int), Cond.fieldLink RX6 32 "SplitClasses$State" "n" "I", Cond.methodLink RX8 194 yX5_gather, Cond.instanceMethod yX5_gather, Cond.selects RX5 yX5_gather yX5_gather, Cond.initialized RX5, Cond.code yX5_gather cX5_gather 2 none, Cond.fieldLink RX5 9 "SplitClasses$Row" "sets" "[I", Cond.fieldLink RX5 15 "SplitClasses$Row" "count" "I", Cond.methodLink RX8 200 yX4_refineRow, Cond.instanceMethod yX4_refineRow, Cond.selects RX4 yX4_refineRow yX4_refineRow, Cond.initialized RX4, Cond.code yX4_refineRow cX4_refineRow 4 none, Cond.fieldLink RX4 18 "SplitClasses$State" "finalSet" "I", Cond.methodLink RX4 24 yX5_cutBy, Cond.instanceMethod yX5_cutBy]
def wsX8_refineAside_r2 : List Cond := [Cond.selects RX5 yX5_cutBy yX5_cutBy, Cond.code yX5_cutBy cX5_cutBy 5 none, Cond.methodLink RX5 29 yX5_openPlace, Cond.instanceMethod yX5_openPlace, Cond.selects RX5 yX5_openPlace yX5_openPlace, Cond.code yX5_openPlace cX5_openPlace 3 none, Cond.methodLink RX4 28 yX4_settle, Cond.instanceMethod yX4_settle, Cond.selects RX4 yX4_settle yX4_settle, Cond.code yX4_settle cX4_settle 5 none, Cond.fieldLink RX4 12 "SplitClasses$Refiner" "before" "LSplitClasses$Row;", Cond.fieldLink RX4 54 "SplitClasses$Row" "count" "I", Cond.methodLink RX4 43 yX5_copyFrom, Cond.instanceMethod yX5_copyFrom, Cond.selects RX5 yX5_copyFrom yX5_copyFrom, Cond.code yX5_copyFrom cX5_copyFrom 2 none, Cond.methodLink RX5 19 arraycopyName, Cond.native arraycopyName, Cond.static arraycopyName, Cond.initialized "java/lang/System", Cond.methodLink RX4 47 yX4_cutByLetters, Cond.instanceMethod yX4_cutByLetters, Cond.selects RX4 yX4_cutByLetters yX4_cutByLetters, Cond.code yX4_cutByLetters cX4_cutByLetters 5 none]
def wsX8_refineAside_r3 : List Cond := [Cond.fieldLink RX4 60 "SplitClasses$State" "letterCount" "I", Cond.methodLink RX4 63 yX5_setAt, Cond.instanceMethod yX5_setAt, Cond.selects RX5 yX5_setAt yX5_setAt, Cond.code yX5_setAt cX5_setAt 2 (some .int), Cond.methodLink RX5 25 yX5_hasPlace, Cond.instanceMethod yX5_hasPlace, Cond.selects RX5 yX5_hasPlace yX5_hasPlace, Cond.code yX5_hasPlace cX5_hasPlace 2 (some .boolean), Cond.methodLink RX4 67 yX6_itemsThatGoInto, Cond.instanceMethod yX6_itemsThatGoInto, Cond.selects RX6 yX6_itemsThatGoInto yX6_itemsThatGoInto, Cond.code yX6_itemsThatGoInto cX6_itemsThatGoInto 5 (some .int), Cond.methodLink RX6 101 yX6_leadsTo, Cond.instanceMethod yX6_leadsTo, Cond.selects RX6 yX6_leadsTo yX6_leadsTo, Cond.code yX6_leadsTo cX6_leadsTo 3 (some .int), Cond.fieldLink RX6 18 "SplitClasses$State" "leads" "[I", Cond.methodLink RX6 71 yX6_hasItem, Cond.instanceMethod yX6_hasItem, Cond.selects RX6 yX6_hasItem yX6_hasItem, Cond.code yX6_hasItem cX6_hasItem 2 (some .boolean), Cond.methodLink RX6 75 yX6_hasLetter, Cond.instanceMethod yX6_hasLetter]
def wsX8_refineAside_r4 : List Cond := [Cond.selects RX6 yX6_hasLetter yX6_hasLetter, Cond.code yX6_hasLetter cX6_hasLetter 2 (some .boolean), Cond.fieldLink RX6 42 "SplitClasses$State" "letterCount" "I", Cond.methodLink RX4 51 yX4_cutByNearCounts, Cond.instanceMethod yX4_cutByNearCounts, Cond.selects RX4 yX4_cutByNearCounts yX4_cutByNearCounts, Cond.code yX4_cutByNearCounts cX4_cutByNearCounts 7 none, Cond.methodLink RX4 71 yJ6_bitCount_0f7a4, Cond.static yJ6_bitCount_0f7a4, Cond.initialized RJ6, Cond.code yJ6_bitCount_0f7a4 cJ6_bitCount_0f7a4 1 (some .int), Cond.constant RJ6 265 (1431655765), Cond.constant RJ6 266 (858993459), Cond.constant RJ6 267 (252645135), Cond.methodLink RX4 76 yX6_itemsWithNearIn, Cond.instanceMethod yX6_itemsWithNearIn, Cond.selects RX6 yX6_itemsWithNearIn yX6_itemsWithNearIn, Cond.code yX6_itemsWithNearIn cX6_itemsWithNearIn 5 (some .int), Cond.fieldLink RX6 15 "SplitClasses$State" "nearSets" "[I", Cond.methodLink RX6 82 yJ6_bitCount_0f7a4, Cond.methodLink RX4 57 yX5_sortByLeast, Cond.instanceMethod yX5_sortByLeast, Cond.selects RX5 yX5_sortByLeast yX5_sortByLeast, Cond.code yX5_sortByLeast cX5_sortByLeast 4 none]
def wsX8_refineAside_r5 : List Cond := [Cond.methodLink RX5 36 yX5_least, Cond.static yX5_least, Cond.code yX5_least cX5_least 1 (some .int), Cond.methodLink RX5 40 yJ6_numberOfTrailingZeros_0f7a4, Cond.static yJ6_numberOfTrailingZeros_0f7a4, Cond.code yJ6_numberOfTrailingZeros_0f7a4 cJ6_numberOfTrailingZeros_0f7a4 2 (some .int), Cond.constant RJ6 264 (65536), Cond.methodLink RX4 32 yX4_cutByAll, Cond.instanceMethod yX4_cutByAll, Cond.selects RX4 yX4_cutByAll yX4_cutByAll, Cond.code yX4_cutByAll cX4_cutByAll 6 none, Cond.fieldLink RX4 36 "SplitClasses$State" "n" "I", Cond.methodLink RX4 39 yX6_setOfKind, Cond.instanceMethod yX6_setOfKind, Cond.selects RX6 yX6_setOfKind yX6_setOfKind, Cond.code yX6_setOfKind cX6_setOfKind 5 (some .int), Cond.fieldLink RX6 48 "SplitClasses$State" "finalSet" "I", Cond.methodLink RX6 88 yX6_itemsWithColumn, Cond.instanceMethod yX6_itemsWithColumn, Cond.selects RX6 yX6_itemsWithColumn yX6_itemsWithColumn, Cond.code yX6_itemsWithColumn cX6_itemsWithColumn 4 (some .int), Cond.fieldLink RX6 9 "SplitClasses$State" "columnSets" "[I", Cond.methodLink RX6 91 yX5_setAt, Cond.methodLink RX6 94 yX6_itemsThatGoInto]
def wsX8_refineAside_r6 : List Cond := [Cond.methodLink RX6 98 yX6_itemsWithNearIn]
def wsX8_refineAside : List Cond := .code yX8_refineAside cX8_refineAside 2 none :: ((wsX8_refineAside_r1 ++ (wsX8_refineAside_r2 ++ (wsX8_refineAside_r3 ++ (wsX8_refineAside_r4 ++ (wsX8_refineAside_r5 ++ wsX8_refineAside_r6))))) ++ wsX80 ++ wsX60 ++ wsX50 ++ wsX40)
def wsX8_told_r1 : List Cond := [Cond.fieldLink RX8 10 "SplitClasses" "now" "LSplitClasses$State;", Cond.fieldLink RX8 65 "SplitClasses$State" "n" "I", Cond.fieldLink RX8 69 "SplitClasses$State" "row" "LSplitClasses$Row;", Cond.fieldLink RX8 72 "SplitClasses$Row" "count" "I", Cond.fieldLink RX8 75 "SplitClasses$State" "work" "I", Cond.fieldLink RX8 82 "SplitClasses$State" "letterCount" "I", Cond.fieldLink RX8 85 "SplitClasses$State" "finalSet" "I", Cond.fieldLink RX8 54 "SplitClasses" "aside" "LSplitClasses$Row;", Cond.fieldLink RX8 47 "SplitClasses" "walk" "LSplitClasses$Walk;", Cond.fieldLink RX8 26 "SplitClasses" "book" "LSplitClasses$Book;", Cond.fieldLink RX8 103 "SplitClasses$Book" "size" "I", Cond.fieldLink RX8 19 "SplitClasses" "history" "LSplitClasses$History;", Cond.fieldLink RX8 109 "SplitClasses$History" "count" "I", Cond.fieldLink RX8 61 "SplitClasses" "draws" "LSplitClasses$Draws;", Cond.fieldLink RX8 110 "SplitClasses$Draws" "state" "I", Cond.constant RX8 113 (-1000000002), Cond.methodLink RX8 78 yX6_edgeCount, Cond.instanceMethod yX6_edgeCount, Cond.selects RX6 yX6_edgeCount yX6_edgeCount, Cond.initialized RX6, Cond.code yX6_edgeCount cX6_edgeCount 3 (some .int), Cond.fieldLink RX6 32 "SplitClasses$State" "n" "I", Cond.fieldLink RX6 15 "SplitClasses$State" "nearSets" "[I", Cond.methodLink RX6 82 yJ6_bitCount_0f7a4]
def wsX8_told_r2 : List Cond := [Cond.static yJ6_bitCount_0f7a4, Cond.initialized RJ6, Cond.code yJ6_bitCount_0f7a4 cJ6_bitCount_0f7a4 1 (some .int), Cond.constant RJ6 265 (1431655765), Cond.constant RJ6 266 (858993459), Cond.constant RJ6 267 (252645135), Cond.methodLink RX8 88 yX8_refineAside, Cond.instanceMethod yX8_refineAside, Cond.selects RX8 yX8_refineAside yX8_refineAside, Cond.initialized RX8, Cond.code yX8_refineAside cX8_refineAside 2 none, Cond.fieldLink RX8 40 "SplitClasses" "refiner" "LSplitClasses$Refiner;", Cond.methodLink RX8 191 yX6_all, Cond.instanceMethod yX6_all, Cond.selects RX6 yX6_all yX6_all, Cond.code yX6_all cX6_all 1 (some .int), Cond.methodLink RX8 194 yX5_gather, Cond.instanceMethod yX5_gather, Cond.selects RX5 yX5_gather yX5_gather, Cond.initialized RX5, Cond.code yX5_gather cX5_gather 2 none, Cond.fieldLink RX5 9 "SplitClasses$Row" "sets" "[I", Cond.fieldLink RX5 15 "SplitClasses$Row" "count" "I", Cond.methodLink RX8 200 yX4_refineRow]
def wsX8_told_r3 : List Cond := [Cond.instanceMethod yX4_refineRow, Cond.selects RX4 yX4_refineRow yX4_refineRow, Cond.initialized RX4, Cond.code yX4_refineRow cX4_refineRow 4 none, Cond.fieldLink RX4 18 "SplitClasses$State" "finalSet" "I", Cond.methodLink RX4 24 yX5_cutBy, Cond.instanceMethod yX5_cutBy, Cond.selects RX5 yX5_cutBy yX5_cutBy, Cond.code yX5_cutBy cX5_cutBy 5 none, Cond.methodLink RX5 29 yX5_openPlace, Cond.instanceMethod yX5_openPlace, Cond.selects RX5 yX5_openPlace yX5_openPlace, Cond.code yX5_openPlace cX5_openPlace 3 none, Cond.methodLink RX4 28 yX4_settle, Cond.instanceMethod yX4_settle, Cond.selects RX4 yX4_settle yX4_settle, Cond.code yX4_settle cX4_settle 5 none, Cond.fieldLink RX4 12 "SplitClasses$Refiner" "before" "LSplitClasses$Row;", Cond.fieldLink RX4 54 "SplitClasses$Row" "count" "I", Cond.methodLink RX4 43 yX5_copyFrom, Cond.instanceMethod yX5_copyFrom, Cond.selects RX5 yX5_copyFrom yX5_copyFrom, Cond.code yX5_copyFrom cX5_copyFrom 2 none, Cond.methodLink RX5 19 arraycopyName]
def wsX8_told_r4 : List Cond := [Cond.native arraycopyName, Cond.static arraycopyName, Cond.initialized "java/lang/System", Cond.methodLink RX4 47 yX4_cutByLetters, Cond.instanceMethod yX4_cutByLetters, Cond.selects RX4 yX4_cutByLetters yX4_cutByLetters, Cond.code yX4_cutByLetters cX4_cutByLetters 5 none, Cond.fieldLink RX4 60 "SplitClasses$State" "letterCount" "I", Cond.methodLink RX4 63 yX5_setAt, Cond.instanceMethod yX5_setAt, Cond.selects RX5 yX5_setAt yX5_setAt, Cond.code yX5_setAt cX5_setAt 2 (some .int), Cond.methodLink RX5 25 yX5_hasPlace, Cond.instanceMethod yX5_hasPlace, Cond.selects RX5 yX5_hasPlace yX5_hasPlace, Cond.code yX5_hasPlace cX5_hasPlace 2 (some .boolean), Cond.methodLink RX4 67 yX6_itemsThatGoInto, Cond.instanceMethod yX6_itemsThatGoInto, Cond.selects RX6 yX6_itemsThatGoInto yX6_itemsThatGoInto, Cond.code yX6_itemsThatGoInto cX6_itemsThatGoInto 5 (some .int), Cond.methodLink RX6 101 yX6_leadsTo, Cond.instanceMethod yX6_leadsTo, Cond.selects RX6 yX6_leadsTo yX6_leadsTo, Cond.code yX6_leadsTo cX6_leadsTo 3 (some .int)]
def wsX8_told_r5 : List Cond := [Cond.fieldLink RX6 18 "SplitClasses$State" "leads" "[I", Cond.methodLink RX6 71 yX6_hasItem, Cond.instanceMethod yX6_hasItem, Cond.selects RX6 yX6_hasItem yX6_hasItem, Cond.code yX6_hasItem cX6_hasItem 2 (some .boolean), Cond.methodLink RX6 75 yX6_hasLetter, Cond.instanceMethod yX6_hasLetter, Cond.selects RX6 yX6_hasLetter yX6_hasLetter, Cond.code yX6_hasLetter cX6_hasLetter 2 (some .boolean), Cond.fieldLink RX6 42 "SplitClasses$State" "letterCount" "I", Cond.methodLink RX4 51 yX4_cutByNearCounts, Cond.instanceMethod yX4_cutByNearCounts, Cond.selects RX4 yX4_cutByNearCounts yX4_cutByNearCounts, Cond.code yX4_cutByNearCounts cX4_cutByNearCounts 7 none, Cond.methodLink RX4 71 yJ6_bitCount_0f7a4, Cond.methodLink RX4 76 yX6_itemsWithNearIn, Cond.instanceMethod yX6_itemsWithNearIn, Cond.selects RX6 yX6_itemsWithNearIn yX6_itemsWithNearIn, Cond.code yX6_itemsWithNearIn cX6_itemsWithNearIn 5 (some .int), Cond.methodLink RX4 57 yX5_sortByLeast, Cond.instanceMethod yX5_sortByLeast, Cond.selects RX5 yX5_sortByLeast yX5_sortByLeast, Cond.code yX5_sortByLeast cX5_sortByLeast 4 none, Cond.methodLink RX5 36 yX5_least]
def wsX8_told_r6 : List Cond := [Cond.static yX5_least, Cond.code yX5_least cX5_least 1 (some .int), Cond.methodLink RX5 40 yJ6_numberOfTrailingZeros_0f7a4, Cond.static yJ6_numberOfTrailingZeros_0f7a4, Cond.code yJ6_numberOfTrailingZeros_0f7a4 cJ6_numberOfTrailingZeros_0f7a4 2 (some .int), Cond.constant RJ6 264 (65536), Cond.methodLink RX4 32 yX4_cutByAll, Cond.instanceMethod yX4_cutByAll, Cond.selects RX4 yX4_cutByAll yX4_cutByAll, Cond.code yX4_cutByAll cX4_cutByAll 6 none, Cond.fieldLink RX4 36 "SplitClasses$State" "n" "I", Cond.methodLink RX4 39 yX6_setOfKind, Cond.instanceMethod yX6_setOfKind, Cond.selects RX6 yX6_setOfKind yX6_setOfKind, Cond.code yX6_setOfKind cX6_setOfKind 5 (some .int), Cond.fieldLink RX6 48 "SplitClasses$State" "finalSet" "I", Cond.methodLink RX6 88 yX6_itemsWithColumn, Cond.instanceMethod yX6_itemsWithColumn, Cond.selects RX6 yX6_itemsWithColumn yX6_itemsWithColumn, Cond.code yX6_itemsWithColumn cX6_itemsWithColumn 4 (some .int), Cond.fieldLink RX6 9 "SplitClasses$State" "columnSets" "[I", Cond.methodLink RX6 91 yX5_setAt, Cond.methodLink RX6 94 yX6_itemsThatGoInto, Cond.methodLink RX6 98 yX6_itemsWithNearIn]
def wsX8_told_r7 : List Cond := [Cond.methodLink RX8 92 yX7_walkFrom, Cond.instanceMethod yX7_walkFrom, Cond.selects RX7 yX7_walkFrom yX7_walkFrom, Cond.initialized RX7, Cond.code yX7_walkFrom cX7_walkFrom 6 none, Cond.fieldLink RX7 18 "SplitClasses$Walk" "row" "LSplitClasses$Row;", Cond.fieldLink RX7 38 "SplitClasses$State" "n" "I", Cond.fieldLink RX7 9 "SplitClasses$Walk" "order" "[I", Cond.fieldLink RX7 22 "SplitClasses$Walk" "earlier" "[I", Cond.fieldLink RX7 49 "SplitClasses$State" "nearSets" "[I", Cond.methodLink RX7 25 yX6_all, Cond.methodLink RX7 31 yX5_gather, Cond.methodLink RX7 35 yX5_cutBy, Cond.methodLink RX7 42 yX5_takeLeast, Cond.instanceMethod yX5_takeLeast, Cond.selects RX5 yX5_takeLeast yX5_takeLeast, Cond.code yX5_takeLeast cX5_takeLeast 2 (some .int), Cond.methodLink RX5 33 yX5_closePlace, Cond.instanceMethod yX5_closePlace, Cond.selects RX5 yX5_closePlace yX5_closePlace, Cond.code yX5_closePlace cX5_closePlace 3 none, Cond.methodLink RX7 45 yX6_hasItem, Cond.methodLink RX8 96 yX7_fault, Cond.instanceMethod yX7_fault]
def wsX8_told_r8 : List Cond := [Cond.selects RX7 yX7_fault yX7_fault, Cond.code yX7_fault cX7_fault 5 (some .int), Cond.methodLink RX7 52 yX7_nearAhead, Cond.instanceMethod yX7_nearAhead, Cond.selects RX7 yX7_nearAhead yX7_nearAhead, Cond.code yX7_nearAhead cX7_nearAhead 3 (some .int), Cond.methodLink RX7 56 yX7_lastOf, Cond.instanceMethod yX7_lastOf, Cond.selects RX7 yX7_lastOf yX7_lastOf, Cond.code yX7_lastOf cX7_lastOf 4 (some .int), Cond.methodLink RX8 100 yX7_clique, Cond.instanceMethod yX7_clique, Cond.selects RX7 yX7_clique yX7_clique, Cond.code yX7_clique cX7_clique 4 (some .int), Cond.methodLink RX7 66 Lib.Math.max.name, Cond.static Lib.Math.max.name, Cond.initialized "java/lang/Math", Cond.code Lib.Math.max.name Lib.Math.max.code 2 (some .int), Cond.methodLink RX7 60 yJ6_bitCount_0f7a4, Cond.methodLink RX8 106 yX0_firstWrong, Cond.instanceMethod yX0_firstWrong, Cond.selects RX0 yX0_firstWrong yX0_firstWrong, Cond.initialized RX0, Cond.code yX0_firstWrong cX0_firstWrong 3 (some .int)]
def wsX8_told_r9 : List Cond := [Cond.fieldLink RX0 18 "SplitClasses$Book" "size" "I", Cond.fieldLink RX0 9 "SplitClasses$Book" "entryItems" "[I", Cond.fieldLink RX0 28 "SplitClasses$State" "row" "LSplitClasses$Row;", Cond.fieldLink RX0 15 "SplitClasses$Book" "entryClasses" "[I", Cond.methodLink RX0 22 yX6_hasItem, Cond.methodLink RX0 32 yX5_placeOf, Cond.instanceMethod yX5_placeOf, Cond.selects RX5 yX5_placeOf yX5_placeOf, Cond.code yX5_placeOf cX5_placeOf 3 (some .int)]
def wsX8_told : List Cond := .code yX8_told cX8_told 2 (some .int) :: ((wsX8_told_r1 ++ (wsX8_told_r2 ++ (wsX8_told_r3 ++ (wsX8_told_r4 ++ (wsX8_told_r5 ++ (wsX8_told_r6 ++ (wsX8_told_r7 ++ (wsX8_told_r8 ++ wsX8_told_r9)))))))) ++ wsX80 ++ wsX60 ++ wsX50 ++ wsX00 ++ wsX20 ++ wsX10 ++ wsX40 ++ wsX70)
def wsX8_item_r1 : List Cond := [Cond.fieldLink RX8 10 "SplitClasses" "now" "LSplitClasses$State;", Cond.constant RX8 118 (-1000000001), Cond.fieldLink RX8 119 "SplitClasses$State" "columnSets" "[I", Cond.fieldLink RX8 123 "SplitClasses$State" "nearSets" "[I", Cond.fieldLink RX8 69 "SplitClasses$State" "row" "LSplitClasses$Row;", Cond.constant RX8 113 (-1000000002), Cond.methodLink RX8 114 yX6_hasItem, Cond.instanceMethod yX6_hasItem, Cond.selects RX6 yX6_hasItem yX6_hasItem, Cond.initialized RX6, Cond.code yX6_hasItem cX6_hasItem 2 (some .boolean), Cond.fieldLink RX6 32 "SplitClasses$State" "n" "I", Cond.methodLink RX8 126 yX5_placeOf, Cond.instanceMethod yX5_placeOf, Cond.selects RX5 yX5_placeOf yX5_placeOf, Cond.initialized RX5, Cond.code yX5_placeOf cX5_placeOf 3 (some .int), Cond.fieldLink RX5 15 "SplitClasses$Row" "count" "I", Cond.fieldLink RX5 9 "SplitClasses$Row" "sets" "[I", Cond.methodLink RX8 130 yX5_setAt, Cond.instanceMethod yX5_setAt, Cond.selects RX5 yX5_setAt yX5_setAt, Cond.code yX5_setAt cX5_setAt 2 (some .int), Cond.methodLink RX5 25 yX5_hasPlace]
def wsX8_item_r2 : List Cond := [Cond.instanceMethod yX5_hasPlace, Cond.selects RX5 yX5_hasPlace yX5_hasPlace, Cond.code yX5_hasPlace cX5_hasPlace 2 (some .boolean), Cond.methodLink RX8 133 yJ6_bitCount_0f7a4, Cond.static yJ6_bitCount_0f7a4, Cond.initialized RJ6, Cond.code yJ6_bitCount_0f7a4 cJ6_bitCount_0f7a4 1 (some .int), Cond.constant RJ6 265 (1431655765), Cond.constant RJ6 266 (858993459), Cond.constant RJ6 267 (252645135), Cond.methodLink RX8 138 yX6_hasLetter, Cond.instanceMethod yX6_hasLetter, Cond.selects RX6 yX6_hasLetter yX6_hasLetter, Cond.code yX6_hasLetter cX6_hasLetter 2 (some .boolean), Cond.fieldLink RX6 42 "SplitClasses$State" "letterCount" "I", Cond.methodLink RX8 141 yX6_leadsTo, Cond.instanceMethod yX6_leadsTo, Cond.selects RX6 yX6_leadsTo yX6_leadsTo, Cond.code yX6_leadsTo cX6_leadsTo 3 (some .int), Cond.fieldLink RX6 18 "SplitClasses$State" "leads" "[I", Cond.methodLink RX6 71 yX6_hasItem, Cond.methodLink RX6 75 yX6_hasLetter]
def wsX8_item : List Cond := .code yX8_item cX8_item 3 (some .int) :: ((wsX8_item_r1 ++ wsX8_item_r2) ++ wsX80 ++ wsX60 ++ wsX50)
def wsX8_classAt : List Cond := .code yX8_classAt cX8_classAt 2 (some .int) :: ([.fieldLink RX8 10 "SplitClasses" "now" "LSplitClasses$State;", .fieldLink RX8 69 "SplitClasses$State" "row" "LSplitClasses$Row;", .constant RX8 118 (-1000000001), .methodLink RX8 145 yX5_hasPlace, .instanceMethod yX5_hasPlace, .selects RX5 yX5_hasPlace yX5_hasPlace, .initialized RX5, .code yX5_hasPlace cX5_hasPlace 2 (some .boolean), .fieldLink RX5 15 "SplitClasses$Row" "count" "I", .methodLink RX8 130 yX5_setAt, .instanceMethod yX5_setAt, .selects RX5 yX5_setAt yX5_setAt, .code yX5_setAt cX5_setAt 2 (some .int), .fieldLink RX5 9 "SplitClasses$Row" "sets" "[I", .methodLink RX5 25 yX5_hasPlace] ++ wsX80 ++ wsX60 ++ wsX50)
def wsX8_refusalOfSet : List Cond := .code yX8_refusalOfSet cX8_refusalOfSet 4 (some .int) :: ([.fieldLink RX8 10 "SplitClasses" "now" "LSplitClasses$State;", .constant RX8 118 (-1000000001), .fieldLink RX8 69 "SplitClasses$State" "row" "LSplitClasses$Row;", .constant RX8 113 (-1000000002), .methodLink RX8 114 yX6_hasItem, .instanceMethod yX6_hasItem, .selects RX6 yX6_hasItem yX6_hasItem, .initialized RX6, .code yX6_hasItem cX6_hasItem 2 (some .boolean), .fieldLink RX6 32 "SplitClasses$State" "n" "I", .methodLink RX8 138 yX6_hasLetter, .instanceMethod yX6_hasLetter, .selects RX6 yX6_hasLetter yX6_hasLetter, .code yX6_hasLetter cX6_hasLetter 2 (some .boolean), .fieldLink RX6 42 "SplitClasses$State" "letterCount" "I", .methodLink RX8 145 yX5_hasPlace, .instanceMethod yX5_hasPlace, .selects RX5 yX5_hasPlace yX5_hasPlace, .initialized RX5, .code yX5_hasPlace cX5_hasPlace 2 (some .boolean), .fieldLink RX5 15 "SplitClasses$Row" "count" "I"] ++ wsX80 ++ wsX60 ++ wsX50)
def wsX8_setBy_r1 : List Cond := [Cond.fieldLink RX8 10 "SplitClasses" "now" "LSplitClasses$State;", Cond.fieldLink RX8 69 "SplitClasses$State" "row" "LSplitClasses$Row;", Cond.methodLink RX8 148 yX8_refusalOfSet, Cond.instanceMethod yX8_refusalOfSet, Cond.selects RX8 yX8_refusalOfSet yX8_refusalOfSet, Cond.initialized RX8, Cond.code yX8_refusalOfSet cX8_refusalOfSet 4 (some .int), Cond.constant RX8 118 (-1000000001), Cond.constant RX8 113 (-1000000002), Cond.methodLink RX8 114 yX6_hasItem, Cond.instanceMethod yX6_hasItem, Cond.selects RX6 yX6_hasItem yX6_hasItem, Cond.initialized RX6, Cond.code yX6_hasItem cX6_hasItem 2 (some .boolean), Cond.fieldLink RX6 32 "SplitClasses$State" "n" "I", Cond.methodLink RX8 138 yX6_hasLetter, Cond.instanceMethod yX6_hasLetter, Cond.selects RX6 yX6_hasLetter yX6_hasLetter, Cond.code yX6_hasLetter cX6_hasLetter 2 (some .boolean), Cond.fieldLink RX6 42 "SplitClasses$State" "letterCount" "I", Cond.methodLink RX8 145 yX5_hasPlace, Cond.instanceMethod yX5_hasPlace, Cond.selects RX5 yX5_hasPlace yX5_hasPlace, Cond.initialized RX5]
def wsX8_setBy_r2 : List Cond := [Cond.code yX5_hasPlace cX5_hasPlace 2 (some .boolean), Cond.fieldLink RX5 15 "SplitClasses$Row" "count" "I", Cond.methodLink RX8 152 yX6_setOfKind, Cond.instanceMethod yX6_setOfKind, Cond.selects RX6 yX6_setOfKind yX6_setOfKind, Cond.code yX6_setOfKind cX6_setOfKind 5 (some .int), Cond.fieldLink RX6 15 "SplitClasses$State" "nearSets" "[I", Cond.fieldLink RX6 48 "SplitClasses$State" "finalSet" "I", Cond.methodLink RX6 71 yX6_hasItem, Cond.methodLink RX6 88 yX6_itemsWithColumn, Cond.instanceMethod yX6_itemsWithColumn, Cond.selects RX6 yX6_itemsWithColumn yX6_itemsWithColumn, Cond.code yX6_itemsWithColumn cX6_itemsWithColumn 4 (some .int), Cond.fieldLink RX6 9 "SplitClasses$State" "columnSets" "[I", Cond.methodLink RX6 91 yX5_setAt, Cond.instanceMethod yX5_setAt, Cond.selects RX5 yX5_setAt yX5_setAt, Cond.code yX5_setAt cX5_setAt 2 (some .int), Cond.fieldLink RX5 9 "SplitClasses$Row" "sets" "[I", Cond.methodLink RX5 25 yX5_hasPlace, Cond.methodLink RX6 94 yX6_itemsThatGoInto, Cond.instanceMethod yX6_itemsThatGoInto, Cond.selects RX6 yX6_itemsThatGoInto yX6_itemsThatGoInto, Cond.code yX6_itemsThatGoInto cX6_itemsThatGoInto 5 (some .int)]
def wsX8_setBy_r3 : List Cond := [Cond.methodLink RX6 101 yX6_leadsTo, Cond.instanceMethod yX6_leadsTo, Cond.selects RX6 yX6_leadsTo yX6_leadsTo, Cond.code yX6_leadsTo cX6_leadsTo 3 (some .int), Cond.fieldLink RX6 18 "SplitClasses$State" "leads" "[I", Cond.methodLink RX6 75 yX6_hasLetter, Cond.methodLink RX6 98 yX6_itemsWithNearIn, Cond.instanceMethod yX6_itemsWithNearIn, Cond.selects RX6 yX6_itemsWithNearIn yX6_itemsWithNearIn, Cond.code yX6_itemsWithNearIn cX6_itemsWithNearIn 5 (some .int), Cond.methodLink RX6 82 yJ6_bitCount_0f7a4, Cond.static yJ6_bitCount_0f7a4, Cond.initialized RJ6, Cond.code yJ6_bitCount_0f7a4 cJ6_bitCount_0f7a4 1 (some .int), Cond.constant RJ6 265 (1431655765), Cond.constant RJ6 266 (858993459), Cond.constant RJ6 267 (252645135)]
def wsX8_setBy : List Cond := .code yX8_setBy cX8_setBy 5 (some .int) :: ((wsX8_setBy_r1 ++ (wsX8_setBy_r2 ++ wsX8_setBy_r3)) ++ wsX80 ++ wsX60 ++ wsX50)
def wsX8_isRefinedKind : List Cond := .code yX8_isRefinedKind cX8_isRefinedKind 1 (some .boolean) :: ([])
def wsX8_alike_r1 : List Cond := [Cond.fieldLink RX8 10 "SplitClasses" "now" "LSplitClasses$State;", Cond.constant RX8 118 (-1000000001), Cond.constant RX8 113 (-1000000002), Cond.fieldLink RX8 54 "SplitClasses" "aside" "LSplitClasses$Row;", Cond.methodLink RX8 114 yX6_hasItem, Cond.instanceMethod yX6_hasItem, Cond.selects RX6 yX6_hasItem yX6_hasItem, Cond.initialized RX6, Cond.code yX6_hasItem cX6_hasItem 2 (some .boolean), Cond.fieldLink RX6 32 "SplitClasses$State" "n" "I", Cond.methodLink RX8 156 yX8_isRefinedKind, Cond.static yX8_isRefinedKind, Cond.initialized RX8, Cond.code yX8_isRefinedKind cX8_isRefinedKind 1 (some .boolean), Cond.methodLink RX8 88 yX8_refineAside, Cond.instanceMethod yX8_refineAside, Cond.selects RX8 yX8_refineAside yX8_refineAside, Cond.code yX8_refineAside cX8_refineAside 2 none, Cond.fieldLink RX8 40 "SplitClasses" "refiner" "LSplitClasses$Refiner;", Cond.methodLink RX8 191 yX6_all, Cond.instanceMethod yX6_all, Cond.selects RX6 yX6_all yX6_all, Cond.code yX6_all cX6_all 1 (some .int), Cond.methodLink RX8 194 yX5_gather]
def wsX8_alike_r2 : List Cond := [Cond.instanceMethod yX5_gather, Cond.selects RX5 yX5_gather yX5_gather, Cond.initialized RX5, Cond.code yX5_gather cX5_gather 2 none, Cond.fieldLink RX5 9 "SplitClasses$Row" "sets" "[I", Cond.fieldLink RX5 15 "SplitClasses$Row" "count" "I", Cond.methodLink RX8 200 yX4_refineRow, Cond.instanceMethod yX4_refineRow, Cond.selects RX4 yX4_refineRow yX4_refineRow, Cond.initialized RX4, Cond.code yX4_refineRow cX4_refineRow 4 none, Cond.fieldLink RX4 18 "SplitClasses$State" "finalSet" "I", Cond.methodLink RX4 24 yX5_cutBy, Cond.instanceMethod yX5_cutBy, Cond.selects RX5 yX5_cutBy yX5_cutBy, Cond.code yX5_cutBy cX5_cutBy 5 none, Cond.methodLink RX5 29 yX5_openPlace, Cond.instanceMethod yX5_openPlace, Cond.selects RX5 yX5_openPlace yX5_openPlace, Cond.code yX5_openPlace cX5_openPlace 3 none, Cond.methodLink RX4 28 yX4_settle, Cond.instanceMethod yX4_settle, Cond.selects RX4 yX4_settle yX4_settle, Cond.code yX4_settle cX4_settle 5 none]
def wsX8_alike_r3 : List Cond := [Cond.fieldLink RX4 12 "SplitClasses$Refiner" "before" "LSplitClasses$Row;", Cond.fieldLink RX4 54 "SplitClasses$Row" "count" "I", Cond.methodLink RX4 43 yX5_copyFrom, Cond.instanceMethod yX5_copyFrom, Cond.selects RX5 yX5_copyFrom yX5_copyFrom, Cond.code yX5_copyFrom cX5_copyFrom 2 none, Cond.methodLink RX5 19 arraycopyName, Cond.native arraycopyName, Cond.static arraycopyName, Cond.initialized "java/lang/System", Cond.methodLink RX4 47 yX4_cutByLetters, Cond.instanceMethod yX4_cutByLetters, Cond.selects RX4 yX4_cutByLetters yX4_cutByLetters, Cond.code yX4_cutByLetters cX4_cutByLetters 5 none, Cond.fieldLink RX4 60 "SplitClasses$State" "letterCount" "I", Cond.methodLink RX4 63 yX5_setAt, Cond.instanceMethod yX5_setAt, Cond.selects RX5 yX5_setAt yX5_setAt, Cond.code yX5_setAt cX5_setAt 2 (some .int), Cond.methodLink RX5 25 yX5_hasPlace, Cond.instanceMethod yX5_hasPlace, Cond.selects RX5 yX5_hasPlace yX5_hasPlace, Cond.code yX5_hasPlace cX5_hasPlace 2 (some .boolean), Cond.methodLink RX4 67 yX6_itemsThatGoInto]
def wsX8_alike_r4 : List Cond := [Cond.instanceMethod yX6_itemsThatGoInto, Cond.selects RX6 yX6_itemsThatGoInto yX6_itemsThatGoInto, Cond.code yX6_itemsThatGoInto cX6_itemsThatGoInto 5 (some .int), Cond.methodLink RX6 101 yX6_leadsTo, Cond.instanceMethod yX6_leadsTo, Cond.selects RX6 yX6_leadsTo yX6_leadsTo, Cond.code yX6_leadsTo cX6_leadsTo 3 (some .int), Cond.fieldLink RX6 18 "SplitClasses$State" "leads" "[I", Cond.methodLink RX6 71 yX6_hasItem, Cond.methodLink RX6 75 yX6_hasLetter, Cond.instanceMethod yX6_hasLetter, Cond.selects RX6 yX6_hasLetter yX6_hasLetter, Cond.code yX6_hasLetter cX6_hasLetter 2 (some .boolean), Cond.fieldLink RX6 42 "SplitClasses$State" "letterCount" "I", Cond.methodLink RX4 51 yX4_cutByNearCounts, Cond.instanceMethod yX4_cutByNearCounts, Cond.selects RX4 yX4_cutByNearCounts yX4_cutByNearCounts, Cond.code yX4_cutByNearCounts cX4_cutByNearCounts 7 none, Cond.methodLink RX4 71 yJ6_bitCount_0f7a4, Cond.static yJ6_bitCount_0f7a4, Cond.initialized RJ6, Cond.code yJ6_bitCount_0f7a4 cJ6_bitCount_0f7a4 1 (some .int), Cond.constant RJ6 265 (1431655765), Cond.constant RJ6 266 (858993459)]
def wsX8_alike_r5 : List Cond := [Cond.constant RJ6 267 (252645135), Cond.methodLink RX4 76 yX6_itemsWithNearIn, Cond.instanceMethod yX6_itemsWithNearIn, Cond.selects RX6 yX6_itemsWithNearIn yX6_itemsWithNearIn, Cond.code yX6_itemsWithNearIn cX6_itemsWithNearIn 5 (some .int), Cond.fieldLink RX6 15 "SplitClasses$State" "nearSets" "[I", Cond.methodLink RX6 82 yJ6_bitCount_0f7a4, Cond.methodLink RX4 57 yX5_sortByLeast, Cond.instanceMethod yX5_sortByLeast, Cond.selects RX5 yX5_sortByLeast yX5_sortByLeast, Cond.code yX5_sortByLeast cX5_sortByLeast 4 none, Cond.methodLink RX5 36 yX5_least, Cond.static yX5_least, Cond.code yX5_least cX5_least 1 (some .int), Cond.methodLink RX5 40 yJ6_numberOfTrailingZeros_0f7a4, Cond.static yJ6_numberOfTrailingZeros_0f7a4, Cond.code yJ6_numberOfTrailingZeros_0f7a4 cJ6_numberOfTrailingZeros_0f7a4 2 (some .int), Cond.constant RJ6 264 (65536), Cond.methodLink RX4 32 yX4_cutByAll, Cond.instanceMethod yX4_cutByAll, Cond.selects RX4 yX4_cutByAll yX4_cutByAll, Cond.code yX4_cutByAll cX4_cutByAll 6 none, Cond.fieldLink RX4 36 "SplitClasses$State" "n" "I", Cond.methodLink RX4 39 yX6_setOfKind]
def wsX8_alike_r6 : List Cond := [Cond.instanceMethod yX6_setOfKind, Cond.selects RX6 yX6_setOfKind yX6_setOfKind, Cond.code yX6_setOfKind cX6_setOfKind 5 (some .int), Cond.fieldLink RX6 48 "SplitClasses$State" "finalSet" "I", Cond.methodLink RX6 88 yX6_itemsWithColumn, Cond.instanceMethod yX6_itemsWithColumn, Cond.selects RX6 yX6_itemsWithColumn yX6_itemsWithColumn, Cond.code yX6_itemsWithColumn cX6_itemsWithColumn 4 (some .int), Cond.fieldLink RX6 9 "SplitClasses$State" "columnSets" "[I", Cond.methodLink RX6 91 yX5_setAt, Cond.methodLink RX6 94 yX6_itemsThatGoInto, Cond.methodLink RX6 98 yX6_itemsWithNearIn, Cond.methodLink RX8 126 yX5_placeOf, Cond.instanceMethod yX5_placeOf, Cond.selects RX5 yX5_placeOf yX5_placeOf, Cond.code yX5_placeOf cX5_placeOf 3 (some .int)]
def wsX8_alike : List Cond := .code yX8_alike cX8_alike 4 (some .int) :: ((wsX8_alike_r1 ++ (wsX8_alike_r2 ++ (wsX8_alike_r3 ++ (wsX8_alike_r4 ++ (wsX8_alike_r5 ++ wsX8_alike_r6))))) ++ wsX80 ++ wsX60 ++ wsX50 ++ wsX40)
def wsX8_apart_r1 : List Cond := [Cond.fieldLink RX8 10 "SplitClasses" "now" "LSplitClasses$State;", Cond.constant RX8 118 (-1000000001), Cond.fieldLink RX8 40 "SplitClasses" "refiner" "LSplitClasses$Refiner;", Cond.fieldLink RX8 54 "SplitClasses" "aside" "LSplitClasses$Row;", Cond.methodLink RX8 114 yX6_hasItem, Cond.instanceMethod yX6_hasItem, Cond.selects RX6 yX6_hasItem yX6_hasItem, Cond.initialized RX6, Cond.code yX6_hasItem cX6_hasItem 2 (some .boolean), Cond.fieldLink RX6 32 "SplitClasses$State" "n" "I", Cond.methodLink RX8 159 yX4_shortestWordApart, Cond.instanceMethod yX4_shortestWordApart, Cond.selects RX4 yX4_shortestWordApart yX4_shortestWordApart, Cond.initialized RX4, Cond.code yX4_shortestWordApart cX4_shortestWordApart 6 (some .int), Cond.fieldLink RX4 18 "SplitClasses$State" "finalSet" "I", Cond.fieldLink RX4 12 "SplitClasses$Refiner" "before" "LSplitClasses$Row;", Cond.fieldLink RX4 54 "SplitClasses$Row" "count" "I", Cond.methodLink RX4 79 yX6_all, Cond.instanceMethod yX6_all, Cond.selects RX6 yX6_all yX6_all, Cond.code yX6_all cX6_all 1 (some .int), Cond.methodLink RX4 83 yX5_gather, Cond.instanceMethod yX5_gather]
def wsX8_apart_r2 : List Cond := [Cond.selects RX5 yX5_gather yX5_gather, Cond.initialized RX5, Cond.code yX5_gather cX5_gather 2 none, Cond.fieldLink RX5 9 "SplitClasses$Row" "sets" "[I", Cond.fieldLink RX5 15 "SplitClasses$Row" "count" "I", Cond.methodLink RX4 24 yX5_cutBy, Cond.instanceMethod yX5_cutBy, Cond.selects RX5 yX5_cutBy yX5_cutBy, Cond.code yX5_cutBy cX5_cutBy 5 none, Cond.methodLink RX5 29 yX5_openPlace, Cond.instanceMethod yX5_openPlace, Cond.selects RX5 yX5_openPlace yX5_openPlace, Cond.code yX5_openPlace cX5_openPlace 3 none, Cond.methodLink RX4 86 yX5_placeOf, Cond.instanceMethod yX5_placeOf, Cond.selects RX5 yX5_placeOf yX5_placeOf, Cond.code yX5_placeOf cX5_placeOf 3 (some .int), Cond.methodLink RX4 43 yX5_copyFrom, Cond.instanceMethod yX5_copyFrom, Cond.selects RX5 yX5_copyFrom yX5_copyFrom, Cond.code yX5_copyFrom cX5_copyFrom 2 none, Cond.methodLink RX5 19 arraycopyName, Cond.native arraycopyName, Cond.static arraycopyName]
def wsX8_apart_r3 : List Cond := [Cond.initialized "java/lang/System", Cond.methodLink RX4 47 yX4_cutByLetters, Cond.instanceMethod yX4_cutByLetters, Cond.selects RX4 yX4_cutByLetters yX4_cutByLetters, Cond.code yX4_cutByLetters cX4_cutByLetters 5 none, Cond.fieldLink RX4 60 "SplitClasses$State" "letterCount" "I", Cond.methodLink RX4 63 yX5_setAt, Cond.instanceMethod yX5_setAt, Cond.selects RX5 yX5_setAt yX5_setAt, Cond.code yX5_setAt cX5_setAt 2 (some .int), Cond.methodLink RX5 25 yX5_hasPlace, Cond.instanceMethod yX5_hasPlace, Cond.selects RX5 yX5_hasPlace yX5_hasPlace, Cond.code yX5_hasPlace cX5_hasPlace 2 (some .boolean), Cond.methodLink RX4 67 yX6_itemsThatGoInto, Cond.instanceMethod yX6_itemsThatGoInto, Cond.selects RX6 yX6_itemsThatGoInto yX6_itemsThatGoInto, Cond.code yX6_itemsThatGoInto cX6_itemsThatGoInto 5 (some .int), Cond.methodLink RX6 101 yX6_leadsTo, Cond.instanceMethod yX6_leadsTo, Cond.selects RX6 yX6_leadsTo yX6_leadsTo, Cond.code yX6_leadsTo cX6_leadsTo 3 (some .int), Cond.fieldLink RX6 18 "SplitClasses$State" "leads" "[I", Cond.methodLink RX6 71 yX6_hasItem]
def wsX8_apart_r4 : List Cond := [Cond.methodLink RX6 75 yX6_hasLetter, Cond.instanceMethod yX6_hasLetter, Cond.selects RX6 yX6_hasLetter yX6_hasLetter, Cond.code yX6_hasLetter cX6_hasLetter 2 (some .boolean), Cond.fieldLink RX6 42 "SplitClasses$State" "letterCount" "I"]
def wsX8_apart : List Cond := .code yX8_apart cX8_apart 3 (some .int) :: ((wsX8_apart_r1 ++ (wsX8_apart_r2 ++ (wsX8_apart_r3 ++ wsX8_apart_r4))) ++ wsX80 ++ wsX60 ++ wsX40 ++ wsX50)
def wsX8_search_r1 : List Cond := [Cond.fieldLink RX8 10 "SplitClasses" "now" "LSplitClasses$State;", Cond.constant RX8 118 (-1000000001), Cond.fieldLink RX8 47 "SplitClasses" "walk" "LSplitClasses$Walk;", Cond.fieldLink RX8 163 "SplitClasses$Walk" "order" "[I", Cond.methodLink RX8 114 yX6_hasItem, Cond.instanceMethod yX6_hasItem, Cond.selects RX6 yX6_hasItem yX6_hasItem, Cond.initialized RX6, Cond.code yX6_hasItem cX6_hasItem 2 (some .boolean), Cond.fieldLink RX6 32 "SplitClasses$State" "n" "I", Cond.methodLink RX8 92 yX7_walkFrom, Cond.instanceMethod yX7_walkFrom, Cond.selects RX7 yX7_walkFrom yX7_walkFrom, Cond.initialized RX7, Cond.code yX7_walkFrom cX7_walkFrom 6 none, Cond.fieldLink RX7 18 "SplitClasses$Walk" "row" "LSplitClasses$Row;", Cond.fieldLink RX7 38 "SplitClasses$State" "n" "I", Cond.fieldLink RX7 9 "SplitClasses$Walk" "order" "[I", Cond.fieldLink RX7 22 "SplitClasses$Walk" "earlier" "[I", Cond.fieldLink RX7 49 "SplitClasses$State" "nearSets" "[I", Cond.methodLink RX7 25 yX6_all, Cond.instanceMethod yX6_all, Cond.selects RX6 yX6_all yX6_all, Cond.code yX6_all cX6_all 1 (some .int)]
def wsX8_search_r2 : List Cond := [Cond.methodLink RX7 31 yX5_gather, Cond.instanceMethod yX5_gather, Cond.selects RX5 yX5_gather yX5_gather, Cond.initialized RX5, Cond.code yX5_gather cX5_gather 2 none, Cond.fieldLink RX5 9 "SplitClasses$Row" "sets" "[I", Cond.fieldLink RX5 15 "SplitClasses$Row" "count" "I", Cond.methodLink RX7 35 yX5_cutBy, Cond.instanceMethod yX5_cutBy, Cond.selects RX5 yX5_cutBy yX5_cutBy, Cond.code yX5_cutBy cX5_cutBy 5 none, Cond.methodLink RX5 29 yX5_openPlace, Cond.instanceMethod yX5_openPlace, Cond.selects RX5 yX5_openPlace yX5_openPlace, Cond.code yX5_openPlace cX5_openPlace 3 none, Cond.methodLink RX7 42 yX5_takeLeast, Cond.instanceMethod yX5_takeLeast, Cond.selects RX5 yX5_takeLeast yX5_takeLeast, Cond.code yX5_takeLeast cX5_takeLeast 2 (some .int), Cond.methodLink RX5 36 yX5_least, Cond.static yX5_least, Cond.code yX5_least cX5_least 1 (some .int), Cond.methodLink RX5 40 yJ6_numberOfTrailingZeros_0f7a4, Cond.static yJ6_numberOfTrailingZeros_0f7a4]
def wsX8_search_r3 : List Cond := [Cond.initialized RJ6, Cond.code yJ6_numberOfTrailingZeros_0f7a4 cJ6_numberOfTrailingZeros_0f7a4 2 (some .int), Cond.constant RJ6 264 (65536), Cond.methodLink RX5 33 yX5_closePlace, Cond.instanceMethod yX5_closePlace, Cond.selects RX5 yX5_closePlace yX5_closePlace, Cond.code yX5_closePlace cX5_closePlace 3 none, Cond.methodLink RX7 45 yX6_hasItem]
def wsX8_search : List Cond := .code yX8_search cX8_search 3 (some .int) :: ((wsX8_search_r1 ++ (wsX8_search_r2 ++ wsX8_search_r3)) ++ wsX80 ++ wsX70 ++ wsX60 ++ wsX50)
def wsX8_items_r1 : List Cond := [Cond.constant RX8 113 (-1000000002), Cond.fieldLink RX8 10 "SplitClasses" "now" "LSplitClasses$State;", Cond.fieldLink RX8 65 "SplitClasses$State" "n" "I", Cond.fieldLink RX8 19 "SplitClasses" "history" "LSplitClasses$History;", Cond.methodLink RX8 166 yX2_remember, Cond.instanceMethod yX2_remember, Cond.selects RX2 yX2_remember yX2_remember, Cond.initialized RX2, Cond.code yX2_remember cX2_remember 2 none, Cond.fieldLink RX2 11 "SplitClasses$History" "ring" "[LSplitClasses$State;", Cond.fieldLink RX2 18 "SplitClasses$History" "next" "I", Cond.fieldLink RX2 22 "SplitClasses$History" "count" "I", Cond.methodLink RX2 29 Lib.Math.min.name, Cond.static Lib.Math.min.name, Cond.initialized "java/lang/Math", Cond.code Lib.Math.min.name Lib.Math.min.code 2 (some .int), Cond.methodLink RX2 25 yX6_copyFrom, Cond.instanceMethod yX6_copyFrom, Cond.selects RX6 yX6_copyFrom yX6_copyFrom, Cond.initialized RX6, Cond.code yX6_copyFrom cX6_copyFrom 2 none, Cond.fieldLink RX6 32 "SplitClasses$State" "n" "I", Cond.fieldLink RX6 42 "SplitClasses$State" "letterCount" "I", Cond.fieldLink RX6 48 "SplitClasses$State" "finalSet" "I"]
def wsX8_items_r2 : List Cond := [Cond.fieldLink RX6 58 "SplitClasses$State" "work" "I", Cond.fieldLink RX6 9 "SplitClasses$State" "columnSets" "[I", Cond.methodLink RX6 61 arraycopyName, Cond.native arraycopyName, Cond.static arraycopyName, Cond.initialized "java/lang/System", Cond.fieldLink RX6 15 "SplitClasses$State" "nearSets" "[I", Cond.fieldLink RX6 18 "SplitClasses$State" "leads" "[I", Cond.fieldLink RX6 24 "SplitClasses$State" "row" "LSplitClasses$Row;", Cond.methodLink RX6 67 yX5_copyFrom, Cond.instanceMethod yX5_copyFrom, Cond.selects RX5 yX5_copyFrom yX5_copyFrom, Cond.initialized RX5, Cond.code yX5_copyFrom cX5_copyFrom 2 none, Cond.fieldLink RX5 9 "SplitClasses$Row" "sets" "[I", Cond.methodLink RX5 19 arraycopyName, Cond.fieldLink RX5 15 "SplitClasses$Row" "count" "I", Cond.methodLink RX8 170 yX6_startWith, Cond.instanceMethod yX6_startWith, Cond.selects RX6 yX6_startWith yX6_startWith, Cond.code yX6_startWith cX6_startWith 2 none, Cond.methodLink RX6 36 yJ7_fill_53178, Cond.static yJ7_fill_53178, Cond.initialized RJ7]
def wsX8_items_r3 : List Cond := [Cond.code yJ7_fill_53178 cJ7_fill_53178 4 none, Cond.methodLink RX6 45 yX6_takeLetters, Cond.instanceMethod yX6_takeLetters, Cond.selects RX6 yX6_takeLetters yX6_takeLetters, Cond.code yX6_takeLetters cX6_takeLetters 5 none, Cond.methodLink RX6 78 yX6_lead, Cond.instanceMethod yX6_lead, Cond.selects RX6 yX6_lead yX6_lead, Cond.code yX6_lead cX6_lead 4 none, Cond.methodLink RX6 71 yX6_hasItem, Cond.instanceMethod yX6_hasItem, Cond.selects RX6 yX6_hasItem yX6_hasItem, Cond.code yX6_hasItem cX6_hasItem 2 (some .boolean), Cond.methodLink RX6 75 yX6_hasLetter, Cond.instanceMethod yX6_hasLetter, Cond.selects RX6 yX6_hasLetter yX6_hasLetter, Cond.code yX6_hasLetter cX6_hasLetter 2 (some .boolean), Cond.methodLink RX6 51 yX6_all, Cond.instanceMethod yX6_all, Cond.selects RX6 yX6_all yX6_all, Cond.code yX6_all cX6_all 1 (some .int), Cond.methodLink RX6 55 yX5_gather, Cond.instanceMethod yX5_gather, Cond.selects RX5 yX5_gather yX5_gather]
def wsX8_items_r4 : List Cond := [Cond.code yX5_gather cX5_gather 2 none]
def wsX8_items : List Cond := .code yX8_items cX8_items 3 (some .int) :: ((wsX8_items_r1 ++ (wsX8_items_r2 ++ (wsX8_items_r3 ++ wsX8_items_r4))) ++ wsX80 ++ wsX60 ++ wsX20 ++ wsX50)
def wsX8_edge_r1 : List Cond := [Cond.fieldLink RX8 10 "SplitClasses" "now" "LSplitClasses$State;", Cond.constant RX8 118 (-1000000001), Cond.constant RX8 113 (-1000000002), Cond.fieldLink RX8 19 "SplitClasses" "history" "LSplitClasses$History;", Cond.methodLink RX8 114 yX6_hasItem, Cond.instanceMethod yX6_hasItem, Cond.selects RX6 yX6_hasItem yX6_hasItem, Cond.initialized RX6, Cond.code yX6_hasItem cX6_hasItem 2 (some .boolean), Cond.fieldLink RX6 32 "SplitClasses$State" "n" "I", Cond.methodLink RX8 166 yX2_remember, Cond.instanceMethod yX2_remember, Cond.selects RX2 yX2_remember yX2_remember, Cond.initialized RX2, Cond.code yX2_remember cX2_remember 2 none, Cond.fieldLink RX2 11 "SplitClasses$History" "ring" "[LSplitClasses$State;", Cond.fieldLink RX2 18 "SplitClasses$History" "next" "I", Cond.fieldLink RX2 22 "SplitClasses$History" "count" "I", Cond.methodLink RX2 29 Lib.Math.min.name, Cond.static Lib.Math.min.name, Cond.initialized "java/lang/Math", Cond.code Lib.Math.min.name Lib.Math.min.code 2 (some .int), Cond.methodLink RX2 25 yX6_copyFrom, Cond.instanceMethod yX6_copyFrom]
def wsX8_edge_r2 : List Cond := [Cond.selects RX6 yX6_copyFrom yX6_copyFrom, Cond.code yX6_copyFrom cX6_copyFrom 2 none, Cond.fieldLink RX6 42 "SplitClasses$State" "letterCount" "I", Cond.fieldLink RX6 48 "SplitClasses$State" "finalSet" "I", Cond.fieldLink RX6 58 "SplitClasses$State" "work" "I", Cond.fieldLink RX6 9 "SplitClasses$State" "columnSets" "[I", Cond.methodLink RX6 61 arraycopyName, Cond.native arraycopyName, Cond.static arraycopyName, Cond.initialized "java/lang/System", Cond.fieldLink RX6 15 "SplitClasses$State" "nearSets" "[I", Cond.fieldLink RX6 18 "SplitClasses$State" "leads" "[I", Cond.fieldLink RX6 24 "SplitClasses$State" "row" "LSplitClasses$Row;", Cond.methodLink RX6 67 yX5_copyFrom, Cond.instanceMethod yX5_copyFrom, Cond.selects RX5 yX5_copyFrom yX5_copyFrom, Cond.initialized RX5, Cond.code yX5_copyFrom cX5_copyFrom 2 none, Cond.fieldLink RX5 9 "SplitClasses$Row" "sets" "[I", Cond.methodLink RX5 19 arraycopyName, Cond.fieldLink RX5 15 "SplitClasses$Row" "count" "I", Cond.methodLink RX8 173 yX6_isEdge, Cond.instanceMethod yX6_isEdge, Cond.selects RX6 yX6_isEdge yX6_isEdge]
def wsX8_edge_r3 : List Cond := [Cond.code yX6_isEdge cX6_isEdge 3 (some .boolean), Cond.methodLink RX6 71 yX6_hasItem, Cond.methodLink RX8 177 yX6_flipEdge, Cond.instanceMethod yX6_flipEdge, Cond.selects RX6 yX6_flipEdge yX6_flipEdge, Cond.code yX6_flipEdge cX6_flipEdge 3 none, Cond.methodLink RX8 78 yX6_edgeCount, Cond.instanceMethod yX6_edgeCount, Cond.selects RX6 yX6_edgeCount yX6_edgeCount, Cond.code yX6_edgeCount cX6_edgeCount 3 (some .int), Cond.methodLink RX6 82 yJ6_bitCount_0f7a4, Cond.static yJ6_bitCount_0f7a4, Cond.initialized RJ6, Cond.code yJ6_bitCount_0f7a4 cJ6_bitCount_0f7a4 1 (some .int), Cond.constant RJ6 265 (1431655765), Cond.constant RJ6 266 (858993459), Cond.constant RJ6 267 (252645135)]
def wsX8_edge : List Cond := .code yX8_edge cX8_edge 4 (some .int) :: ((wsX8_edge_r1 ++ (wsX8_edge_r2 ++ wsX8_edge_r3)) ++ wsX80 ++ wsX60 ++ wsX20 ++ wsX50)
def wsX8_columns_r1 : List Cond := [Cond.fieldLink RX8 10 "SplitClasses" "now" "LSplitClasses$State;", Cond.constant RX8 118 (-1000000001), Cond.constant RX8 113 (-1000000002), Cond.fieldLink RX8 119 "SplitClasses$State" "columnSets" "[I", Cond.fieldLink RX8 19 "SplitClasses" "history" "LSplitClasses$History;", Cond.methodLink RX8 114 yX6_hasItem, Cond.instanceMethod yX6_hasItem, Cond.selects RX6 yX6_hasItem yX6_hasItem, Cond.initialized RX6, Cond.code yX6_hasItem cX6_hasItem 2 (some .boolean), Cond.fieldLink RX6 32 "SplitClasses$State" "n" "I", Cond.methodLink RX8 166 yX2_remember, Cond.instanceMethod yX2_remember, Cond.selects RX2 yX2_remember yX2_remember, Cond.initialized RX2, Cond.code yX2_remember cX2_remember 2 none, Cond.fieldLink RX2 11 "SplitClasses$History" "ring" "[LSplitClasses$State;", Cond.fieldLink RX2 18 "SplitClasses$History" "next" "I", Cond.fieldLink RX2 22 "SplitClasses$History" "count" "I", Cond.methodLink RX2 29 Lib.Math.min.name, Cond.static Lib.Math.min.name, Cond.initialized "java/lang/Math", Cond.code Lib.Math.min.name Lib.Math.min.code 2 (some .int), Cond.methodLink RX2 25 yX6_copyFrom]
def wsX8_columns_r2 : List Cond := [Cond.instanceMethod yX6_copyFrom, Cond.selects RX6 yX6_copyFrom yX6_copyFrom, Cond.code yX6_copyFrom cX6_copyFrom 2 none, Cond.fieldLink RX6 42 "SplitClasses$State" "letterCount" "I", Cond.fieldLink RX6 48 "SplitClasses$State" "finalSet" "I", Cond.fieldLink RX6 58 "SplitClasses$State" "work" "I", Cond.fieldLink RX6 9 "SplitClasses$State" "columnSets" "[I", Cond.methodLink RX6 61 arraycopyName, Cond.native arraycopyName, Cond.static arraycopyName, Cond.initialized "java/lang/System", Cond.fieldLink RX6 15 "SplitClasses$State" "nearSets" "[I", Cond.fieldLink RX6 18 "SplitClasses$State" "leads" "[I", Cond.fieldLink RX6 24 "SplitClasses$State" "row" "LSplitClasses$Row;", Cond.methodLink RX6 67 yX5_copyFrom, Cond.instanceMethod yX5_copyFrom, Cond.selects RX5 yX5_copyFrom yX5_copyFrom, Cond.initialized RX5, Cond.code yX5_copyFrom cX5_copyFrom 2 none, Cond.fieldLink RX5 9 "SplitClasses$Row" "sets" "[I", Cond.methodLink RX5 19 arraycopyName, Cond.fieldLink RX5 15 "SplitClasses$Row" "count" "I"]
def wsX8_columns : List Cond := .code yX8_columns cX8_columns 4 (some .int) :: ((wsX8_columns_r1 ++ wsX8_columns_r2) ++ wsX80 ++ wsX60 ++ wsX20 ++ wsX50)
def wsX8_letters_r1 : List Cond := [Cond.constant RX8 113 (-1000000002), Cond.fieldLink RX8 10 "SplitClasses" "now" "LSplitClasses$State;", Cond.fieldLink RX8 82 "SplitClasses$State" "letterCount" "I", Cond.fieldLink RX8 19 "SplitClasses" "history" "LSplitClasses$History;", Cond.methodLink RX8 166 yX2_remember, Cond.instanceMethod yX2_remember, Cond.selects RX2 yX2_remember yX2_remember, Cond.initialized RX2, Cond.code yX2_remember cX2_remember 2 none, Cond.fieldLink RX2 11 "SplitClasses$History" "ring" "[LSplitClasses$State;", Cond.fieldLink RX2 18 "SplitClasses$History" "next" "I", Cond.fieldLink RX2 22 "SplitClasses$History" "count" "I", Cond.methodLink RX2 29 Lib.Math.min.name, Cond.static Lib.Math.min.name, Cond.initialized "java/lang/Math", Cond.code Lib.Math.min.name Lib.Math.min.code 2 (some .int), Cond.methodLink RX2 25 yX6_copyFrom, Cond.instanceMethod yX6_copyFrom, Cond.selects RX6 yX6_copyFrom yX6_copyFrom, Cond.initialized RX6, Cond.code yX6_copyFrom cX6_copyFrom 2 none, Cond.fieldLink RX6 32 "SplitClasses$State" "n" "I", Cond.fieldLink RX6 42 "SplitClasses$State" "letterCount" "I", Cond.fieldLink RX6 48 "SplitClasses$State" "finalSet" "I"]
def wsX8_letters_r2 : List Cond := [Cond.fieldLink RX6 58 "SplitClasses$State" "work" "I", Cond.fieldLink RX6 9 "SplitClasses$State" "columnSets" "[I", Cond.methodLink RX6 61 arraycopyName, Cond.native arraycopyName, Cond.static arraycopyName, Cond.initialized "java/lang/System", Cond.fieldLink RX6 15 "SplitClasses$State" "nearSets" "[I", Cond.fieldLink RX6 18 "SplitClasses$State" "leads" "[I", Cond.fieldLink RX6 24 "SplitClasses$State" "row" "LSplitClasses$Row;", Cond.methodLink RX6 67 yX5_copyFrom, Cond.instanceMethod yX5_copyFrom, Cond.selects RX5 yX5_copyFrom yX5_copyFrom, Cond.initialized RX5, Cond.code yX5_copyFrom cX5_copyFrom 2 none, Cond.fieldLink RX5 9 "SplitClasses$Row" "sets" "[I", Cond.methodLink RX5 19 arraycopyName, Cond.fieldLink RX5 15 "SplitClasses$Row" "count" "I", Cond.methodLink RX8 181 yX6_takeLetters, Cond.instanceMethod yX6_takeLetters, Cond.selects RX6 yX6_takeLetters yX6_takeLetters, Cond.code yX6_takeLetters cX6_takeLetters 5 none, Cond.methodLink RX6 78 yX6_lead, Cond.instanceMethod yX6_lead, Cond.selects RX6 yX6_lead yX6_lead]
def wsX8_letters_r3 : List Cond := [Cond.code yX6_lead cX6_lead 4 none, Cond.methodLink RX6 71 yX6_hasItem, Cond.instanceMethod yX6_hasItem, Cond.selects RX6 yX6_hasItem yX6_hasItem, Cond.code yX6_hasItem cX6_hasItem 2 (some .boolean), Cond.methodLink RX6 75 yX6_hasLetter, Cond.instanceMethod yX6_hasLetter, Cond.selects RX6 yX6_hasLetter yX6_hasLetter, Cond.code yX6_hasLetter cX6_hasLetter 2 (some .boolean)]
def wsX8_letters : List Cond := .code yX8_letters cX8_letters 3 (some .int) :: ((wsX8_letters_r1 ++ (wsX8_letters_r2 ++ wsX8_letters_r3)) ++ wsX80 ++ wsX60 ++ wsX20 ++ wsX50)
def wsX8_goes_r1 : List Cond := [Cond.fieldLink RX8 10 "SplitClasses" "now" "LSplitClasses$State;", Cond.constant RX8 118 (-1000000001), Cond.fieldLink RX8 19 "SplitClasses" "history" "LSplitClasses$History;", Cond.methodLink RX8 114 yX6_hasItem, Cond.instanceMethod yX6_hasItem, Cond.selects RX6 yX6_hasItem yX6_hasItem, Cond.initialized RX6, Cond.code yX6_hasItem cX6_hasItem 2 (some .boolean), Cond.fieldLink RX6 32 "SplitClasses$State" "n" "I", Cond.methodLink RX8 138 yX6_hasLetter, Cond.instanceMethod yX6_hasLetter, Cond.selects RX6 yX6_hasLetter yX6_hasLetter, Cond.code yX6_hasLetter cX6_hasLetter 2 (some .boolean), Cond.fieldLink RX6 42 "SplitClasses$State" "letterCount" "I", Cond.methodLink RX8 141 yX6_leadsTo, Cond.instanceMethod yX6_leadsTo, Cond.selects RX6 yX6_leadsTo yX6_leadsTo, Cond.code yX6_leadsTo cX6_leadsTo 3 (some .int), Cond.fieldLink RX6 18 "SplitClasses$State" "leads" "[I", Cond.methodLink RX6 71 yX6_hasItem, Cond.methodLink RX6 75 yX6_hasLetter, Cond.methodLink RX8 166 yX2_remember, Cond.instanceMethod yX2_remember, Cond.selects RX2 yX2_remember yX2_remember]
def wsX8_goes_r2 : List Cond := [Cond.initialized RX2, Cond.code yX2_remember cX2_remember 2 none, Cond.fieldLink RX2 11 "SplitClasses$History" "ring" "[LSplitClasses$State;", Cond.fieldLink RX2 18 "SplitClasses$History" "next" "I", Cond.fieldLink RX2 22 "SplitClasses$History" "count" "I", Cond.methodLink RX2 29 Lib.Math.min.name, Cond.static Lib.Math.min.name, Cond.initialized "java/lang/Math", Cond.code Lib.Math.min.name Lib.Math.min.code 2 (some .int), Cond.methodLink RX2 25 yX6_copyFrom, Cond.instanceMethod yX6_copyFrom, Cond.selects RX6 yX6_copyFrom yX6_copyFrom, Cond.code yX6_copyFrom cX6_copyFrom 2 none, Cond.fieldLink RX6 48 "SplitClasses$State" "finalSet" "I", Cond.fieldLink RX6 58 "SplitClasses$State" "work" "I", Cond.fieldLink RX6 9 "SplitClasses$State" "columnSets" "[I", Cond.methodLink RX6 61 arraycopyName, Cond.native arraycopyName, Cond.static arraycopyName, Cond.initialized "java/lang/System", Cond.fieldLink RX6 15 "SplitClasses$State" "nearSets" "[I", Cond.fieldLink RX6 24 "SplitClasses$State" "row" "LSplitClasses$Row;", Cond.methodLink RX6 67 yX5_copyFrom, Cond.instanceMethod yX5_copyFrom]
def wsX8_goes_r3 : List Cond := [Cond.selects RX5 yX5_copyFrom yX5_copyFrom, Cond.initialized RX5, Cond.code yX5_copyFrom cX5_copyFrom 2 none, Cond.fieldLink RX5 9 "SplitClasses$Row" "sets" "[I", Cond.methodLink RX5 19 arraycopyName, Cond.fieldLink RX5 15 "SplitClasses$Row" "count" "I", Cond.methodLink RX8 184 yX6_lead, Cond.instanceMethod yX6_lead, Cond.selects RX6 yX6_lead yX6_lead, Cond.code yX6_lead cX6_lead 4 none]
def wsX8_goes : List Cond := .code yX8_goes cX8_goes 5 (some .int) :: ((wsX8_goes_r1 ++ (wsX8_goes_r2 ++ wsX8_goes_r3)) ++ wsX80 ++ wsX60 ++ wsX20 ++ wsX50)
def wsX8_finals_r1 : List Cond := [Cond.fieldLink RX8 10 "SplitClasses" "now" "LSplitClasses$State;", Cond.constant RX8 118 (-1000000001), Cond.fieldLink RX8 85 "SplitClasses$State" "finalSet" "I", Cond.fieldLink RX8 19 "SplitClasses" "history" "LSplitClasses$History;", Cond.methodLink RX8 188 yX6_hasItemsOf, Cond.instanceMethod yX6_hasItemsOf, Cond.selects RX6 yX6_hasItemsOf yX6_hasItemsOf, Cond.initialized RX6, Cond.code yX6_hasItemsOf cX6_hasItemsOf 2 (some .boolean), Cond.methodLink RX6 51 yX6_all, Cond.instanceMethod yX6_all, Cond.selects RX6 yX6_all yX6_all, Cond.code yX6_all cX6_all 1 (some .int), Cond.fieldLink RX6 32 "SplitClasses$State" "n" "I", Cond.methodLink RX8 166 yX2_remember, Cond.instanceMethod yX2_remember, Cond.selects RX2 yX2_remember yX2_remember, Cond.initialized RX2, Cond.code yX2_remember cX2_remember 2 none, Cond.fieldLink RX2 11 "SplitClasses$History" "ring" "[LSplitClasses$State;", Cond.fieldLink RX2 18 "SplitClasses$History" "next" "I", Cond.fieldLink RX2 22 "SplitClasses$History" "count" "I", Cond.methodLink RX2 29 Lib.Math.min.name, Cond.static Lib.Math.min.name]
def wsX8_finals_r2 : List Cond := [Cond.initialized "java/lang/Math", Cond.code Lib.Math.min.name Lib.Math.min.code 2 (some .int), Cond.methodLink RX2 25 yX6_copyFrom, Cond.instanceMethod yX6_copyFrom, Cond.selects RX6 yX6_copyFrom yX6_copyFrom, Cond.code yX6_copyFrom cX6_copyFrom 2 none, Cond.fieldLink RX6 42 "SplitClasses$State" "letterCount" "I", Cond.fieldLink RX6 48 "SplitClasses$State" "finalSet" "I", Cond.fieldLink RX6 58 "SplitClasses$State" "work" "I", Cond.fieldLink RX6 9 "SplitClasses$State" "columnSets" "[I", Cond.methodLink RX6 61 arraycopyName, Cond.native arraycopyName, Cond.static arraycopyName, Cond.initialized "java/lang/System", Cond.fieldLink RX6 15 "SplitClasses$State" "nearSets" "[I", Cond.fieldLink RX6 18 "SplitClasses$State" "leads" "[I", Cond.fieldLink RX6 24 "SplitClasses$State" "row" "LSplitClasses$Row;", Cond.methodLink RX6 67 yX5_copyFrom, Cond.instanceMethod yX5_copyFrom, Cond.selects RX5 yX5_copyFrom yX5_copyFrom, Cond.initialized RX5, Cond.code yX5_copyFrom cX5_copyFrom 2 none, Cond.fieldLink RX5 9 "SplitClasses$Row" "sets" "[I", Cond.methodLink RX5 19 arraycopyName]
def wsX8_finals_r3 : List Cond := [Cond.fieldLink RX5 15 "SplitClasses$Row" "count" "I"]
def wsX8_finals : List Cond := .code yX8_finals cX8_finals 3 (some .int) :: ((wsX8_finals_r1 ++ (wsX8_finals_r2 ++ wsX8_finals_r3)) ++ wsX80 ++ wsX60 ++ wsX20 ++ wsX50)
def wsX8_begin_r1 : List Cond := [Cond.fieldLink RX8 10 "SplitClasses" "now" "LSplitClasses$State;", Cond.fieldLink RX8 69 "SplitClasses$State" "row" "LSplitClasses$Row;", Cond.fieldLink RX8 72 "SplitClasses$Row" "count" "I", Cond.fieldLink RX8 19 "SplitClasses" "history" "LSplitClasses$History;", Cond.fieldLink RX8 75 "SplitClasses$State" "work" "I", Cond.methodLink RX8 166 yX2_remember, Cond.instanceMethod yX2_remember, Cond.selects RX2 yX2_remember yX2_remember, Cond.initialized RX2, Cond.code yX2_remember cX2_remember 2 none, Cond.fieldLink RX2 11 "SplitClasses$History" "ring" "[LSplitClasses$State;", Cond.fieldLink RX2 18 "SplitClasses$History" "next" "I", Cond.fieldLink RX2 22 "SplitClasses$History" "count" "I", Cond.methodLink RX2 29 Lib.Math.min.name, Cond.static Lib.Math.min.name, Cond.initialized "java/lang/Math", Cond.code Lib.Math.min.name Lib.Math.min.code 2 (some .int), Cond.methodLink RX2 25 yX6_copyFrom, Cond.instanceMethod yX6_copyFrom, Cond.selects RX6 yX6_copyFrom yX6_copyFrom, Cond.initialized RX6, Cond.code yX6_copyFrom cX6_copyFrom 2 none, Cond.fieldLink RX6 32 "SplitClasses$State" "n" "I", Cond.fieldLink RX6 42 "SplitClasses$State" "letterCount" "I"]
def wsX8_begin_r2 : List Cond := [Cond.fieldLink RX6 48 "SplitClasses$State" "finalSet" "I", Cond.fieldLink RX6 58 "SplitClasses$State" "work" "I", Cond.fieldLink RX6 9 "SplitClasses$State" "columnSets" "[I", Cond.methodLink RX6 61 arraycopyName, Cond.native arraycopyName, Cond.static arraycopyName, Cond.initialized "java/lang/System", Cond.fieldLink RX6 15 "SplitClasses$State" "nearSets" "[I", Cond.fieldLink RX6 18 "SplitClasses$State" "leads" "[I", Cond.fieldLink RX6 24 "SplitClasses$State" "row" "LSplitClasses$Row;", Cond.methodLink RX6 67 yX5_copyFrom, Cond.instanceMethod yX5_copyFrom, Cond.selects RX5 yX5_copyFrom yX5_copyFrom, Cond.initialized RX5, Cond.code yX5_copyFrom cX5_copyFrom 2 none, Cond.fieldLink RX5 9 "SplitClasses$Row" "sets" "[I", Cond.methodLink RX5 19 arraycopyName, Cond.fieldLink RX5 15 "SplitClasses$Row" "count" "I", Cond.methodLink RX8 191 yX6_all, Cond.instanceMethod yX6_all, Cond.selects RX6 yX6_all yX6_all, Cond.code yX6_all cX6_all 1 (some .int), Cond.methodLink RX8 194 yX5_gather, Cond.instanceMethod yX5_gather]
def wsX8_begin_r3 : List Cond := [Cond.selects RX5 yX5_gather yX5_gather, Cond.code yX5_gather cX5_gather 2 none]
def wsX8_begin : List Cond := .code yX8_begin cX8_begin 2 (some .int) :: ((wsX8_begin_r1 ++ (wsX8_begin_r2 ++ wsX8_begin_r3)) ++ wsX80 ++ wsX60 ++ wsX50 ++ wsX20)
def wsX8_splitAndCount_r1 : List Cond := [Cond.fieldLink RX8 19 "SplitClasses" "history" "LSplitClasses$History;", Cond.fieldLink RX8 10 "SplitClasses" "now" "LSplitClasses$State;", Cond.fieldLink RX8 69 "SplitClasses$State" "row" "LSplitClasses$Row;", Cond.fieldLink RX8 75 "SplitClasses$State" "work" "I", Cond.fieldLink RX8 72 "SplitClasses$Row" "count" "I", Cond.methodLink RX8 166 yX2_remember, Cond.instanceMethod yX2_remember, Cond.selects RX2 yX2_remember yX2_remember, Cond.initialized RX2, Cond.code yX2_remember cX2_remember 2 none, Cond.fieldLink RX2 11 "SplitClasses$History" "ring" "[LSplitClasses$State;", Cond.fieldLink RX2 18 "SplitClasses$History" "next" "I", Cond.fieldLink RX2 22 "SplitClasses$History" "count" "I", Cond.methodLink RX2 29 Lib.Math.min.name, Cond.static Lib.Math.min.name, Cond.initialized "java/lang/Math", Cond.code Lib.Math.min.name Lib.Math.min.code 2 (some .int), Cond.methodLink RX2 25 yX6_copyFrom, Cond.instanceMethod yX6_copyFrom, Cond.selects RX6 yX6_copyFrom yX6_copyFrom, Cond.initialized RX6, Cond.code yX6_copyFrom cX6_copyFrom 2 none, Cond.fieldLink RX6 32 "SplitClasses$State" "n" "I", Cond.fieldLink RX6 42 "SplitClasses$State" "letterCount" "I"]
def wsX8_splitAndCount_r2 : List Cond := [Cond.fieldLink RX6 48 "SplitClasses$State" "finalSet" "I", Cond.fieldLink RX6 58 "SplitClasses$State" "work" "I", Cond.fieldLink RX6 9 "SplitClasses$State" "columnSets" "[I", Cond.methodLink RX6 61 arraycopyName, Cond.native arraycopyName, Cond.static arraycopyName, Cond.initialized "java/lang/System", Cond.fieldLink RX6 15 "SplitClasses$State" "nearSets" "[I", Cond.fieldLink RX6 18 "SplitClasses$State" "leads" "[I", Cond.fieldLink RX6 24 "SplitClasses$State" "row" "LSplitClasses$Row;", Cond.methodLink RX6 67 yX5_copyFrom, Cond.instanceMethod yX5_copyFrom, Cond.selects RX5 yX5_copyFrom yX5_copyFrom, Cond.initialized RX5, Cond.code yX5_copyFrom cX5_copyFrom 2 none, Cond.fieldLink RX5 9 "SplitClasses$Row" "sets" "[I", Cond.methodLink RX5 19 arraycopyName, Cond.fieldLink RX5 15 "SplitClasses$Row" "count" "I", Cond.methodLink RX8 241 yX5_cutBy, Cond.instanceMethod yX5_cutBy, Cond.selects RX5 yX5_cutBy yX5_cutBy, Cond.code yX5_cutBy cX5_cutBy 5 none, Cond.methodLink RX5 29 yX5_openPlace, Cond.instanceMethod yX5_openPlace]
def wsX8_splitAndCount_r3 : List Cond := [Cond.selects RX5 yX5_openPlace yX5_openPlace, Cond.code yX5_openPlace cX5_openPlace 3 none, Cond.methodLink RX8 133 yJ6_bitCount_0f7a4, Cond.static yJ6_bitCount_0f7a4, Cond.initialized RJ6, Cond.code yJ6_bitCount_0f7a4 cJ6_bitCount_0f7a4 1 (some .int), Cond.constant RJ6 265 (1431655765), Cond.constant RJ6 266 (858993459), Cond.constant RJ6 267 (252645135)]
def wsX8_splitAndCount : List Cond := .code yX8_splitAndCount cX8_splitAndCount 2 (some .int) :: ((wsX8_splitAndCount_r1 ++ (wsX8_splitAndCount_r2 ++ wsX8_splitAndCount_r3)) ++ wsX80 ++ wsX60 ++ wsX50 ++ wsX20)
def wsX8_split_r1 : List Cond := [Cond.fieldLink RX8 10 "SplitClasses" "now" "LSplitClasses$State;", Cond.constant RX8 118 (-1000000001), Cond.methodLink RX8 188 yX6_hasItemsOf, Cond.instanceMethod yX6_hasItemsOf, Cond.selects RX6 yX6_hasItemsOf yX6_hasItemsOf, Cond.initialized RX6, Cond.code yX6_hasItemsOf cX6_hasItemsOf 2 (some .boolean), Cond.methodLink RX6 51 yX6_all, Cond.instanceMethod yX6_all, Cond.selects RX6 yX6_all yX6_all, Cond.code yX6_all cX6_all 1 (some .int), Cond.fieldLink RX6 32 "SplitClasses$State" "n" "I", Cond.methodLink RX8 197 yX8_splitAndCount, Cond.instanceMethod yX8_splitAndCount, Cond.selects RX8 yX8_splitAndCount yX8_splitAndCount, Cond.initialized RX8, Cond.code yX8_splitAndCount cX8_splitAndCount 2 (some .int), Cond.fieldLink RX8 19 "SplitClasses" "history" "LSplitClasses$History;", Cond.fieldLink RX8 69 "SplitClasses$State" "row" "LSplitClasses$Row;", Cond.fieldLink RX8 75 "SplitClasses$State" "work" "I", Cond.fieldLink RX8 72 "SplitClasses$Row" "count" "I", Cond.methodLink RX8 166 yX2_remember, Cond.instanceMethod yX2_remember, Cond.selects RX2 yX2_remember yX2_remember]
def wsX8_split_r2 : List Cond := [Cond.initialized RX2, Cond.code yX2_remember cX2_remember 2 none, Cond.fieldLink RX2 11 "SplitClasses$History" "ring" "[LSplitClasses$State;", Cond.fieldLink RX2 18 "SplitClasses$History" "next" "I", Cond.fieldLink RX2 22 "SplitClasses$History" "count" "I", Cond.methodLink RX2 29 Lib.Math.min.name, Cond.static Lib.Math.min.name, Cond.initialized "java/lang/Math", Cond.code Lib.Math.min.name Lib.Math.min.code 2 (some .int), Cond.methodLink RX2 25 yX6_copyFrom, Cond.instanceMethod yX6_copyFrom, Cond.selects RX6 yX6_copyFrom yX6_copyFrom, Cond.code yX6_copyFrom cX6_copyFrom 2 none, Cond.fieldLink RX6 42 "SplitClasses$State" "letterCount" "I", Cond.fieldLink RX6 48 "SplitClasses$State" "finalSet" "I", Cond.fieldLink RX6 58 "SplitClasses$State" "work" "I", Cond.fieldLink RX6 9 "SplitClasses$State" "columnSets" "[I", Cond.methodLink RX6 61 arraycopyName, Cond.native arraycopyName, Cond.static arraycopyName, Cond.initialized "java/lang/System", Cond.fieldLink RX6 15 "SplitClasses$State" "nearSets" "[I", Cond.fieldLink RX6 18 "SplitClasses$State" "leads" "[I", Cond.fieldLink RX6 24 "SplitClasses$State" "row" "LSplitClasses$Row;"]
def wsX8_split_r3 : List Cond := [Cond.methodLink RX6 67 yX5_copyFrom, Cond.instanceMethod yX5_copyFrom, Cond.selects RX5 yX5_copyFrom yX5_copyFrom, Cond.initialized RX5, Cond.code yX5_copyFrom cX5_copyFrom 2 none, Cond.fieldLink RX5 9 "SplitClasses$Row" "sets" "[I", Cond.methodLink RX5 19 arraycopyName, Cond.fieldLink RX5 15 "SplitClasses$Row" "count" "I", Cond.methodLink RX8 241 yX5_cutBy, Cond.instanceMethod yX5_cutBy, Cond.selects RX5 yX5_cutBy yX5_cutBy, Cond.code yX5_cutBy cX5_cutBy 5 none, Cond.methodLink RX5 29 yX5_openPlace, Cond.instanceMethod yX5_openPlace, Cond.selects RX5 yX5_openPlace yX5_openPlace, Cond.code yX5_openPlace cX5_openPlace 3 none, Cond.methodLink RX8 133 yJ6_bitCount_0f7a4, Cond.static yJ6_bitCount_0f7a4, Cond.initialized RJ6, Cond.code yJ6_bitCount_0f7a4 cJ6_bitCount_0f7a4 1 (some .int), Cond.constant RJ6 265 (1431655765), Cond.constant RJ6 266 (858993459), Cond.constant RJ6 267 (252645135)]
def wsX8_split : List Cond := .code yX8_split cX8_split 2 (some .int) :: ((wsX8_split_r1 ++ (wsX8_split_r2 ++ wsX8_split_r3)) ++ wsX80 ++ wsX60 ++ wsX50 ++ wsX20)
def wsX8_by_r1 : List Cond := [Cond.fieldLink RX8 10 "SplitClasses" "now" "LSplitClasses$State;", Cond.fieldLink RX8 69 "SplitClasses$State" "row" "LSplitClasses$Row;", Cond.methodLink RX8 148 yX8_refusalOfSet, Cond.instanceMethod yX8_refusalOfSet, Cond.selects RX8 yX8_refusalOfSet yX8_refusalOfSet, Cond.initialized RX8, Cond.code yX8_refusalOfSet cX8_refusalOfSet 4 (some .int), Cond.constant RX8 118 (-1000000001), Cond.constant RX8 113 (-1000000002), Cond.methodLink RX8 114 yX6_hasItem, Cond.instanceMethod yX6_hasItem, Cond.selects RX6 yX6_hasItem yX6_hasItem, Cond.initialized RX6, Cond.code yX6_hasItem cX6_hasItem 2 (some .boolean), Cond.fieldLink RX6 32 "SplitClasses$State" "n" "I", Cond.methodLink RX8 138 yX6_hasLetter, Cond.instanceMethod yX6_hasLetter, Cond.selects RX6 yX6_hasLetter yX6_hasLetter, Cond.code yX6_hasLetter cX6_hasLetter 2 (some .boolean), Cond.fieldLink RX6 42 "SplitClasses$State" "letterCount" "I", Cond.methodLink RX8 145 yX5_hasPlace, Cond.instanceMethod yX5_hasPlace, Cond.selects RX5 yX5_hasPlace yX5_hasPlace, Cond.initialized RX5]
def wsX8_by_r2 : List Cond := [Cond.code yX5_hasPlace cX5_hasPlace 2 (some .boolean), Cond.fieldLink RX5 15 "SplitClasses$Row" "count" "I", Cond.methodLink RX8 152 yX6_setOfKind, Cond.instanceMethod yX6_setOfKind, Cond.selects RX6 yX6_setOfKind yX6_setOfKind, Cond.code yX6_setOfKind cX6_setOfKind 5 (some .int), Cond.fieldLink RX6 15 "SplitClasses$State" "nearSets" "[I", Cond.fieldLink RX6 48 "SplitClasses$State" "finalSet" "I", Cond.methodLink RX6 71 yX6_hasItem, Cond.methodLink RX6 88 yX6_itemsWithColumn, Cond.instanceMethod yX6_itemsWithColumn, Cond.selects RX6 yX6_itemsWithColumn yX6_itemsWithColumn, Cond.code yX6_itemsWithColumn cX6_itemsWithColumn 4 (some .int), Cond.fieldLink RX6 9 "SplitClasses$State" "columnSets" "[I", Cond.methodLink RX6 91 yX5_setAt, Cond.instanceMethod yX5_setAt, Cond.selects RX5 yX5_setAt yX5_setAt, Cond.code yX5_setAt cX5_setAt 2 (some .int), Cond.fieldLink RX5 9 "SplitClasses$Row" "sets" "[I", Cond.methodLink RX5 25 yX5_hasPlace, Cond.methodLink RX6 94 yX6_itemsThatGoInto, Cond.instanceMethod yX6_itemsThatGoInto, Cond.selects RX6 yX6_itemsThatGoInto yX6_itemsThatGoInto, Cond.code yX6_itemsThatGoInto cX6_itemsThatGoInto 5 (some .int)]
def wsX8_by_r3 : List Cond := [Cond.methodLink RX6 101 yX6_leadsTo, Cond.instanceMethod yX6_leadsTo, Cond.selects RX6 yX6_leadsTo yX6_leadsTo, Cond.code yX6_leadsTo cX6_leadsTo 3 (some .int), Cond.fieldLink RX6 18 "SplitClasses$State" "leads" "[I", Cond.methodLink RX6 75 yX6_hasLetter, Cond.methodLink RX6 98 yX6_itemsWithNearIn, Cond.instanceMethod yX6_itemsWithNearIn, Cond.selects RX6 yX6_itemsWithNearIn yX6_itemsWithNearIn, Cond.code yX6_itemsWithNearIn cX6_itemsWithNearIn 5 (some .int), Cond.methodLink RX6 82 yJ6_bitCount_0f7a4, Cond.static yJ6_bitCount_0f7a4, Cond.initialized RJ6, Cond.code yJ6_bitCount_0f7a4 cJ6_bitCount_0f7a4 1 (some .int), Cond.constant RJ6 265 (1431655765), Cond.constant RJ6 266 (858993459), Cond.constant RJ6 267 (252645135), Cond.methodLink RX8 197 yX8_splitAndCount, Cond.instanceMethod yX8_splitAndCount, Cond.selects RX8 yX8_splitAndCount yX8_splitAndCount, Cond.code yX8_splitAndCount cX8_splitAndCount 2 (some .int), Cond.fieldLink RX8 19 "SplitClasses" "history" "LSplitClasses$History;", Cond.fieldLink RX8 75 "SplitClasses$State" "work" "I", Cond.fieldLink RX8 72 "SplitClasses$Row" "count" "I"]
def wsX8_by_r4 : List Cond := [Cond.methodLink RX8 166 yX2_remember, Cond.instanceMethod yX2_remember, Cond.selects RX2 yX2_remember yX2_remember, Cond.initialized RX2, Cond.code yX2_remember cX2_remember 2 none, Cond.fieldLink RX2 11 "SplitClasses$History" "ring" "[LSplitClasses$State;", Cond.fieldLink RX2 18 "SplitClasses$History" "next" "I", Cond.fieldLink RX2 22 "SplitClasses$History" "count" "I", Cond.methodLink RX2 29 Lib.Math.min.name, Cond.static Lib.Math.min.name, Cond.initialized "java/lang/Math", Cond.code Lib.Math.min.name Lib.Math.min.code 2 (some .int), Cond.methodLink RX2 25 yX6_copyFrom, Cond.instanceMethod yX6_copyFrom, Cond.selects RX6 yX6_copyFrom yX6_copyFrom, Cond.code yX6_copyFrom cX6_copyFrom 2 none, Cond.fieldLink RX6 58 "SplitClasses$State" "work" "I", Cond.methodLink RX6 61 arraycopyName, Cond.native arraycopyName, Cond.static arraycopyName, Cond.initialized "java/lang/System", Cond.fieldLink RX6 24 "SplitClasses$State" "row" "LSplitClasses$Row;", Cond.methodLink RX6 67 yX5_copyFrom, Cond.instanceMethod yX5_copyFrom]
def wsX8_by_r5 : List Cond := [Cond.selects RX5 yX5_copyFrom yX5_copyFrom, Cond.code yX5_copyFrom cX5_copyFrom 2 none, Cond.methodLink RX5 19 arraycopyName, Cond.methodLink RX8 241 yX5_cutBy, Cond.instanceMethod yX5_cutBy, Cond.selects RX5 yX5_cutBy yX5_cutBy, Cond.code yX5_cutBy cX5_cutBy 5 none, Cond.methodLink RX5 29 yX5_openPlace, Cond.instanceMethod yX5_openPlace, Cond.selects RX5 yX5_openPlace yX5_openPlace, Cond.code yX5_openPlace cX5_openPlace 3 none, Cond.methodLink RX8 133 yJ6_bitCount_0f7a4]
def wsX8_by : List Cond := .code yX8_by cX8_by 5 (some .int) :: ((wsX8_by_r1 ++ (wsX8_by_r2 ++ (wsX8_by_r3 ++ (wsX8_by_r4 ++ wsX8_by_r5)))) ++ wsX80 ++ wsX60 ++ wsX50 ++ wsX20)
def wsX8_refine_r1 : List Cond := [Cond.constant RX8 113 (-1000000002), Cond.fieldLink RX8 19 "SplitClasses" "history" "LSplitClasses$History;", Cond.fieldLink RX8 10 "SplitClasses" "now" "LSplitClasses$State;", Cond.fieldLink RX8 40 "SplitClasses" "refiner" "LSplitClasses$Refiner;", Cond.fieldLink RX8 69 "SplitClasses$State" "row" "LSplitClasses$Row;", Cond.fieldLink RX8 72 "SplitClasses$Row" "count" "I", Cond.methodLink RX8 156 yX8_isRefinedKind, Cond.static yX8_isRefinedKind, Cond.initialized RX8, Cond.code yX8_isRefinedKind cX8_isRefinedKind 1 (some .boolean), Cond.methodLink RX8 166 yX2_remember, Cond.instanceMethod yX2_remember, Cond.selects RX2 yX2_remember yX2_remember, Cond.initialized RX2, Cond.code yX2_remember cX2_remember 2 none, Cond.fieldLink RX2 11 "SplitClasses$History" "ring" "[LSplitClasses$State;", Cond.fieldLink RX2 18 "SplitClasses$History" "next" "I", Cond.fieldLink RX2 22 "SplitClasses$History" "count" "I", Cond.methodLink RX2 29 Lib.Math.min.name, Cond.static Lib.Math.min.name, Cond.initialized "java/lang/Math", Cond.code Lib.Math.min.name Lib.Math.min.code 2 (some .int), Cond.methodLink RX2 25 yX6_copyFrom, Cond.instanceMethod yX6_copyFrom]
def wsX8_refine_r2 : List Cond := [Cond.selects RX6 yX6_copyFrom yX6_copyFrom, Cond.initialized RX6, Cond.code yX6_copyFrom cX6_copyFrom 2 none, Cond.fieldLink RX6 32 "SplitClasses$State" "n" "I", Cond.fieldLink RX6 42 "SplitClasses$State" "letterCount" "I", Cond.fieldLink RX6 48 "SplitClasses$State" "finalSet" "I", Cond.fieldLink RX6 58 "SplitClasses$State" "work" "I", Cond.fieldLink RX6 9 "SplitClasses$State" "columnSets" "[I", Cond.methodLink RX6 61 arraycopyName, Cond.native arraycopyName, Cond.static arraycopyName, Cond.initialized "java/lang/System", Cond.fieldLink RX6 15 "SplitClasses$State" "nearSets" "[I", Cond.fieldLink RX6 18 "SplitClasses$State" "leads" "[I", Cond.fieldLink RX6 24 "SplitClasses$State" "row" "LSplitClasses$Row;", Cond.methodLink RX6 67 yX5_copyFrom, Cond.instanceMethod yX5_copyFrom, Cond.selects RX5 yX5_copyFrom yX5_copyFrom, Cond.initialized RX5, Cond.code yX5_copyFrom cX5_copyFrom 2 none, Cond.fieldLink RX5 9 "SplitClasses$Row" "sets" "[I", Cond.methodLink RX5 19 arraycopyName, Cond.fieldLink RX5 15 "SplitClasses$Row" "count" "I", Cond.methodLink RX8 200 yX4_refineRow]
def wsX8_refine_r3 : List Cond := [Cond.instanceMethod yX4_refineRow, Cond.selects RX4 yX4_refineRow yX4_refineRow, Cond.initialized RX4, Cond.code yX4_refineRow cX4_refineRow 4 none, Cond.fieldLink RX4 18 "SplitClasses$State" "finalSet" "I", Cond.methodLink RX4 24 yX5_cutBy, Cond.instanceMethod yX5_cutBy, Cond.selects RX5 yX5_cutBy yX5_cutBy, Cond.code yX5_cutBy cX5_cutBy 5 none, Cond.methodLink RX5 29 yX5_openPlace, Cond.instanceMethod yX5_openPlace, Cond.selects RX5 yX5_openPlace yX5_openPlace, Cond.code yX5_openPlace cX5_openPlace 3 none, Cond.methodLink RX4 28 yX4_settle, Cond.instanceMethod yX4_settle, Cond.selects RX4 yX4_settle yX4_settle, Cond.code yX4_settle cX4_settle 5 none, Cond.fieldLink RX4 12 "SplitClasses$Refiner" "before" "LSplitClasses$Row;", Cond.fieldLink RX4 54 "SplitClasses$Row" "count" "I", Cond.methodLink RX4 43 yX5_copyFrom, Cond.methodLink RX4 47 yX4_cutByLetters, Cond.instanceMethod yX4_cutByLetters, Cond.selects RX4 yX4_cutByLetters yX4_cutByLetters, Cond.code yX4_cutByLetters cX4_cutByLetters 5 none]
def wsX8_refine_r4 : List Cond := [Cond.fieldLink RX4 60 "SplitClasses$State" "letterCount" "I", Cond.methodLink RX4 63 yX5_setAt, Cond.instanceMethod yX5_setAt, Cond.selects RX5 yX5_setAt yX5_setAt, Cond.code yX5_setAt cX5_setAt 2 (some .int), Cond.methodLink RX5 25 yX5_hasPlace, Cond.instanceMethod yX5_hasPlace, Cond.selects RX5 yX5_hasPlace yX5_hasPlace, Cond.code yX5_hasPlace cX5_hasPlace 2 (some .boolean), Cond.methodLink RX4 67 yX6_itemsThatGoInto, Cond.instanceMethod yX6_itemsThatGoInto, Cond.selects RX6 yX6_itemsThatGoInto yX6_itemsThatGoInto, Cond.code yX6_itemsThatGoInto cX6_itemsThatGoInto 5 (some .int), Cond.methodLink RX6 101 yX6_leadsTo, Cond.instanceMethod yX6_leadsTo, Cond.selects RX6 yX6_leadsTo yX6_leadsTo, Cond.code yX6_leadsTo cX6_leadsTo 3 (some .int), Cond.methodLink RX6 71 yX6_hasItem, Cond.instanceMethod yX6_hasItem, Cond.selects RX6 yX6_hasItem yX6_hasItem, Cond.code yX6_hasItem cX6_hasItem 2 (some .boolean), Cond.methodLink RX6 75 yX6_hasLetter, Cond.instanceMethod yX6_hasLetter, Cond.selects RX6 yX6_hasLetter yX6_hasLetter]
def wsX8_refine_r5 : List Cond := [Cond.code yX6_hasLetter cX6_hasLetter 2 (some .boolean), Cond.methodLink RX4 51 yX4_cutByNearCounts, Cond.instanceMethod yX4_cutByNearCounts, Cond.selects RX4 yX4_cutByNearCounts yX4_cutByNearCounts, Cond.code yX4_cutByNearCounts cX4_cutByNearCounts 7 none, Cond.methodLink RX4 71 yJ6_bitCount_0f7a4, Cond.static yJ6_bitCount_0f7a4, Cond.initialized RJ6, Cond.code yJ6_bitCount_0f7a4 cJ6_bitCount_0f7a4 1 (some .int), Cond.constant RJ6 265 (1431655765), Cond.constant RJ6 266 (858993459), Cond.constant RJ6 267 (252645135), Cond.methodLink RX4 76 yX6_itemsWithNearIn, Cond.instanceMethod yX6_itemsWithNearIn, Cond.selects RX6 yX6_itemsWithNearIn yX6_itemsWithNearIn, Cond.code yX6_itemsWithNearIn cX6_itemsWithNearIn 5 (some .int), Cond.methodLink RX6 82 yJ6_bitCount_0f7a4, Cond.methodLink RX4 57 yX5_sortByLeast, Cond.instanceMethod yX5_sortByLeast, Cond.selects RX5 yX5_sortByLeast yX5_sortByLeast, Cond.code yX5_sortByLeast cX5_sortByLeast 4 none, Cond.methodLink RX5 36 yX5_least, Cond.static yX5_least, Cond.code yX5_least cX5_least 1 (some .int)]
def wsX8_refine_r6 : List Cond := [Cond.methodLink RX5 40 yJ6_numberOfTrailingZeros_0f7a4, Cond.static yJ6_numberOfTrailingZeros_0f7a4, Cond.code yJ6_numberOfTrailingZeros_0f7a4 cJ6_numberOfTrailingZeros_0f7a4 2 (some .int), Cond.constant RJ6 264 (65536), Cond.methodLink RX4 32 yX4_cutByAll, Cond.instanceMethod yX4_cutByAll, Cond.selects RX4 yX4_cutByAll yX4_cutByAll, Cond.code yX4_cutByAll cX4_cutByAll 6 none, Cond.fieldLink RX4 36 "SplitClasses$State" "n" "I", Cond.methodLink RX4 39 yX6_setOfKind, Cond.instanceMethod yX6_setOfKind, Cond.selects RX6 yX6_setOfKind yX6_setOfKind, Cond.code yX6_setOfKind cX6_setOfKind 5 (some .int), Cond.methodLink RX6 88 yX6_itemsWithColumn, Cond.instanceMethod yX6_itemsWithColumn, Cond.selects RX6 yX6_itemsWithColumn yX6_itemsWithColumn, Cond.code yX6_itemsWithColumn cX6_itemsWithColumn 4 (some .int), Cond.methodLink RX6 91 yX5_setAt, Cond.methodLink RX6 94 yX6_itemsThatGoInto, Cond.methodLink RX6 98 yX6_itemsWithNearIn]
def wsX8_refine : List Cond := .code yX8_refine cX8_refine 2 (some .int) :: ((wsX8_refine_r1 ++ (wsX8_refine_r2 ++ (wsX8_refine_r3 ++ (wsX8_refine_r4 ++ (wsX8_refine_r5 ++ wsX8_refine_r6))))) ++ wsX80 ++ wsX60 ++ wsX50 ++ wsX20 ++ wsX40)
def wsX8_join_r1 : List Cond := [Cond.fieldLink RX8 10 "SplitClasses" "now" "LSplitClasses$State;", Cond.fieldLink RX8 69 "SplitClasses$State" "row" "LSplitClasses$Row;", Cond.fieldLink RX8 72 "SplitClasses$Row" "count" "I", Cond.constant RX8 118 (-1000000001), Cond.fieldLink RX8 19 "SplitClasses" "history" "LSplitClasses$History;", Cond.methodLink RX8 166 yX2_remember, Cond.instanceMethod yX2_remember, Cond.selects RX2 yX2_remember yX2_remember, Cond.initialized RX2, Cond.code yX2_remember cX2_remember 2 none, Cond.fieldLink RX2 11 "SplitClasses$History" "ring" "[LSplitClasses$State;", Cond.fieldLink RX2 18 "SplitClasses$History" "next" "I", Cond.fieldLink RX2 22 "SplitClasses$History" "count" "I", Cond.methodLink RX2 29 Lib.Math.min.name, Cond.static Lib.Math.min.name, Cond.initialized "java/lang/Math", Cond.code Lib.Math.min.name Lib.Math.min.code 2 (some .int), Cond.methodLink RX2 25 yX6_copyFrom, Cond.instanceMethod yX6_copyFrom, Cond.selects RX6 yX6_copyFrom yX6_copyFrom, Cond.initialized RX6, Cond.code yX6_copyFrom cX6_copyFrom 2 none, Cond.fieldLink RX6 32 "SplitClasses$State" "n" "I", Cond.fieldLink RX6 42 "SplitClasses$State" "letterCount" "I"]
def wsX8_join_r2 : List Cond := [Cond.fieldLink RX6 48 "SplitClasses$State" "finalSet" "I", Cond.fieldLink RX6 58 "SplitClasses$State" "work" "I", Cond.fieldLink RX6 9 "SplitClasses$State" "columnSets" "[I", Cond.methodLink RX6 61 arraycopyName, Cond.native arraycopyName, Cond.static arraycopyName, Cond.initialized "java/lang/System", Cond.fieldLink RX6 15 "SplitClasses$State" "nearSets" "[I", Cond.fieldLink RX6 18 "SplitClasses$State" "leads" "[I", Cond.fieldLink RX6 24 "SplitClasses$State" "row" "LSplitClasses$Row;", Cond.methodLink RX6 67 yX5_copyFrom, Cond.instanceMethod yX5_copyFrom, Cond.selects RX5 yX5_copyFrom yX5_copyFrom, Cond.initialized RX5, Cond.code yX5_copyFrom cX5_copyFrom 2 none, Cond.fieldLink RX5 9 "SplitClasses$Row" "sets" "[I", Cond.methodLink RX5 19 arraycopyName, Cond.fieldLink RX5 15 "SplitClasses$Row" "count" "I", Cond.methodLink RX8 204 yX5_mergeWithNext, Cond.instanceMethod yX5_mergeWithNext, Cond.selects RX5 yX5_mergeWithNext yX5_mergeWithNext, Cond.code yX5_mergeWithNext cX5_mergeWithNext 3 none, Cond.methodLink RX5 25 yX5_hasPlace, Cond.instanceMethod yX5_hasPlace]
def wsX8_join_r3 : List Cond := [Cond.selects RX5 yX5_hasPlace yX5_hasPlace, Cond.code yX5_hasPlace cX5_hasPlace 2 (some .boolean), Cond.methodLink RX5 33 yX5_closePlace, Cond.instanceMethod yX5_closePlace, Cond.selects RX5 yX5_closePlace yX5_closePlace, Cond.code yX5_closePlace cX5_closePlace 3 none]
def wsX8_join : List Cond := .code yX8_join cX8_join 2 (some .int) :: ((wsX8_join_r1 ++ (wsX8_join_r2 ++ wsX8_join_r3)) ++ wsX80 ++ wsX60 ++ wsX50 ++ wsX20)
def wsX8_arrange_r1 : List Cond := [Cond.fieldLink RX8 19 "SplitClasses" "history" "LSplitClasses$History;", Cond.fieldLink RX8 10 "SplitClasses" "now" "LSplitClasses$State;", Cond.fieldLink RX8 54 "SplitClasses" "aside" "LSplitClasses$Row;", Cond.fieldLink RX8 69 "SplitClasses$State" "row" "LSplitClasses$Row;", Cond.methodLink RX8 166 yX2_remember, Cond.instanceMethod yX2_remember, Cond.selects RX2 yX2_remember yX2_remember, Cond.initialized RX2, Cond.code yX2_remember cX2_remember 2 none, Cond.fieldLink RX2 11 "SplitClasses$History" "ring" "[LSplitClasses$State;", Cond.fieldLink RX2 18 "SplitClasses$History" "next" "I", Cond.fieldLink RX2 22 "SplitClasses$History" "count" "I", Cond.methodLink RX2 29 Lib.Math.min.name, Cond.static Lib.Math.min.name, Cond.initialized "java/lang/Math", Cond.code Lib.Math.min.name Lib.Math.min.code 2 (some .int), Cond.methodLink RX2 25 yX6_copyFrom, Cond.instanceMethod yX6_copyFrom, Cond.selects RX6 yX6_copyFrom yX6_copyFrom, Cond.initialized RX6, Cond.code yX6_copyFrom cX6_copyFrom 2 none, Cond.fieldLink RX6 32 "SplitClasses$State" "n" "I", Cond.fieldLink RX6 42 "SplitClasses$State" "letterCount" "I", Cond.fieldLink RX6 48 "SplitClasses$State" "finalSet" "I"]
def wsX8_arrange_r2 : List Cond := [Cond.fieldLink RX6 58 "SplitClasses$State" "work" "I", Cond.fieldLink RX6 9 "SplitClasses$State" "columnSets" "[I", Cond.methodLink RX6 61 arraycopyName, Cond.native arraycopyName, Cond.static arraycopyName, Cond.initialized "java/lang/System", Cond.fieldLink RX6 15 "SplitClasses$State" "nearSets" "[I", Cond.fieldLink RX6 18 "SplitClasses$State" "leads" "[I", Cond.fieldLink RX6 24 "SplitClasses$State" "row" "LSplitClasses$Row;", Cond.methodLink RX6 67 yX5_copyFrom, Cond.instanceMethod yX5_copyFrom, Cond.selects RX5 yX5_copyFrom yX5_copyFrom, Cond.initialized RX5, Cond.code yX5_copyFrom cX5_copyFrom 2 none, Cond.fieldLink RX5 9 "SplitClasses$Row" "sets" "[I", Cond.methodLink RX5 19 arraycopyName, Cond.fieldLink RX5 15 "SplitClasses$Row" "count" "I", Cond.methodLink RX8 207 yX5_copyFrom, Cond.methodLink RX8 211 yX5_sortByLeast, Cond.instanceMethod yX5_sortByLeast, Cond.selects RX5 yX5_sortByLeast yX5_sortByLeast, Cond.code yX5_sortByLeast cX5_sortByLeast 4 none, Cond.methodLink RX5 36 yX5_least, Cond.static yX5_least]
def wsX8_arrange_r3 : List Cond := [Cond.code yX5_least cX5_least 1 (some .int), Cond.methodLink RX5 40 yJ6_numberOfTrailingZeros_0f7a4, Cond.static yJ6_numberOfTrailingZeros_0f7a4, Cond.initialized RJ6, Cond.code yJ6_numberOfTrailingZeros_0f7a4 cJ6_numberOfTrailingZeros_0f7a4 2 (some .int), Cond.constant RJ6 264 (65536), Cond.methodLink RX8 214 yX5_differingFrom, Cond.instanceMethod yX5_differingFrom, Cond.selects RX5 yX5_differingFrom yX5_differingFrom, Cond.code yX5_differingFrom cX5_differingFrom 4 (some .int), Cond.methodLink RX5 45 yX5_setAt, Cond.instanceMethod yX5_setAt, Cond.selects RX5 yX5_setAt yX5_setAt, Cond.code yX5_setAt cX5_setAt 2 (some .int), Cond.methodLink RX5 25 yX5_hasPlace, Cond.instanceMethod yX5_hasPlace, Cond.selects RX5 yX5_hasPlace yX5_hasPlace, Cond.code yX5_hasPlace cX5_hasPlace 2 (some .boolean)]
def wsX8_arrange : List Cond := .code yX8_arrange cX8_arrange 1 (some .int) :: ((wsX8_arrange_r1 ++ (wsX8_arrange_r2 ++ wsX8_arrange_r3)) ++ wsX80 ++ wsX60 ++ wsX20 ++ wsX50)
def wsX8_drift_r1 : List Cond := [Cond.constant RX8 113 (-1000000002), Cond.fieldLink RX8 19 "SplitClasses" "history" "LSplitClasses$History;", Cond.fieldLink RX8 10 "SplitClasses" "now" "LSplitClasses$State;", Cond.fieldLink RX8 61 "SplitClasses" "draws" "LSplitClasses$Draws;", Cond.methodLink RX8 166 yX2_remember, Cond.instanceMethod yX2_remember, Cond.selects RX2 yX2_remember yX2_remember, Cond.initialized RX2, Cond.code yX2_remember cX2_remember 2 none, Cond.fieldLink RX2 11 "SplitClasses$History" "ring" "[LSplitClasses$State;", Cond.fieldLink RX2 18 "SplitClasses$History" "next" "I", Cond.fieldLink RX2 22 "SplitClasses$History" "count" "I", Cond.methodLink RX2 29 Lib.Math.min.name, Cond.static Lib.Math.min.name, Cond.initialized "java/lang/Math", Cond.code Lib.Math.min.name Lib.Math.min.code 2 (some .int), Cond.methodLink RX2 25 yX6_copyFrom, Cond.instanceMethod yX6_copyFrom, Cond.selects RX6 yX6_copyFrom yX6_copyFrom, Cond.initialized RX6, Cond.code yX6_copyFrom cX6_copyFrom 2 none, Cond.fieldLink RX6 32 "SplitClasses$State" "n" "I", Cond.fieldLink RX6 42 "SplitClasses$State" "letterCount" "I", Cond.fieldLink RX6 48 "SplitClasses$State" "finalSet" "I"]
def wsX8_drift_r2 : List Cond := [Cond.fieldLink RX6 58 "SplitClasses$State" "work" "I", Cond.fieldLink RX6 9 "SplitClasses$State" "columnSets" "[I", Cond.methodLink RX6 61 arraycopyName, Cond.native arraycopyName, Cond.static arraycopyName, Cond.initialized "java/lang/System", Cond.fieldLink RX6 15 "SplitClasses$State" "nearSets" "[I", Cond.fieldLink RX6 18 "SplitClasses$State" "leads" "[I", Cond.fieldLink RX6 24 "SplitClasses$State" "row" "LSplitClasses$Row;", Cond.methodLink RX6 67 yX5_copyFrom, Cond.instanceMethod yX5_copyFrom, Cond.selects RX5 yX5_copyFrom yX5_copyFrom, Cond.initialized RX5, Cond.code yX5_copyFrom cX5_copyFrom 2 none, Cond.fieldLink RX5 9 "SplitClasses$Row" "sets" "[I", Cond.methodLink RX5 19 arraycopyName, Cond.fieldLink RX5 15 "SplitClasses$Row" "count" "I", Cond.methodLink RX8 218 yX1_change, Cond.instanceMethod yX1_change, Cond.selects RX1 yX1_change yX1_change, Cond.initialized RX1, Cond.code yX1_change cX1_change 2 none, Cond.fieldLink RX1 36 "SplitClasses$State" "n" "I", Cond.fieldLink RX1 41 "SplitClasses$State" "finalSet" "I"]
def wsX8_drift_r3 : List Cond := [Cond.methodLink RX1 22 yX1_draw, Cond.instanceMethod yX1_draw, Cond.selects RX1 yX1_draw yX1_draw, Cond.code yX1_draw cX1_draw 2 (some .int), Cond.fieldLink RX1 9 "SplitClasses$Draws" "state" "I", Cond.constantLong RX1 15 (1103515245), Cond.constantLong RX1 17 (12345), Cond.constantLong RX1 19 (2147483647), Cond.constant RX1 21 (65536), Cond.methodLink RX1 26 yX1_changeEdge, Cond.instanceMethod yX1_changeEdge, Cond.selects RX1 yX1_changeEdge yX1_changeEdge, Cond.code yX1_changeEdge cX1_changeEdge 4 none, Cond.methodLink RX1 44 yX6_flipEdge, Cond.instanceMethod yX6_flipEdge, Cond.selects RX6 yX6_flipEdge yX6_flipEdge, Cond.code yX6_flipEdge cX6_flipEdge 3 none, Cond.methodLink RX6 71 yX6_hasItem, Cond.instanceMethod yX6_hasItem, Cond.selects RX6 yX6_hasItem yX6_hasItem, Cond.code yX6_hasItem cX6_hasItem 2 (some .boolean), Cond.methodLink RX1 30 yX1_changeColumns, Cond.instanceMethod yX1_changeColumns, Cond.selects RX1 yX1_changeColumns yX1_changeColumns]
def wsX8_drift_r4 : List Cond := [Cond.code yX1_changeColumns cX1_changeColumns 4 none, Cond.fieldLink RX1 52 "SplitClasses$State" "columnSets" "[I", Cond.methodLink RX1 48 yX6_hasItem, Cond.methodLink RX1 33 yX1_changeMachine, Cond.instanceMethod yX1_changeMachine, Cond.selects RX1 yX1_changeMachine yX1_changeMachine, Cond.code yX1_changeMachine cX1_changeMachine 5 none, Cond.fieldLink RX1 56 "SplitClasses$State" "letterCount" "I", Cond.methodLink RX1 59 yX6_lead, Cond.instanceMethod yX6_lead, Cond.selects RX6 yX6_lead yX6_lead, Cond.code yX6_lead cX6_lead 4 none, Cond.methodLink RX6 75 yX6_hasLetter, Cond.instanceMethod yX6_hasLetter, Cond.selects RX6 yX6_hasLetter yX6_hasLetter, Cond.code yX6_hasLetter cX6_hasLetter 2 (some .boolean), Cond.methodLink RX8 78 yX6_edgeCount, Cond.instanceMethod yX6_edgeCount, Cond.selects RX6 yX6_edgeCount yX6_edgeCount, Cond.code yX6_edgeCount cX6_edgeCount 3 (some .int), Cond.methodLink RX6 82 yJ6_bitCount_0f7a4, Cond.static yJ6_bitCount_0f7a4, Cond.initialized RJ6, Cond.code yJ6_bitCount_0f7a4 cJ6_bitCount_0f7a4 1 (some .int)]
def wsX8_drift_r5 : List Cond := [Cond.constant RJ6 265 (1431655765), Cond.constant RJ6 266 (858993459), Cond.constant RJ6 267 (252645135)]
def wsX8_drift : List Cond := .code yX8_drift cX8_drift 3 (some .int) :: ((wsX8_drift_r1 ++ (wsX8_drift_r2 ++ (wsX8_drift_r3 ++ (wsX8_drift_r4 ++ wsX8_drift_r5)))) ++ wsX80 ++ wsX20 ++ wsX60 ++ wsX50 ++ wsX10)
def wsX8_undo_r1 : List Cond := [Cond.constant RX8 113 (-1000000002), Cond.fieldLink RX8 19 "SplitClasses" "history" "LSplitClasses$History;", Cond.fieldLink RX8 109 "SplitClasses$History" "count" "I", Cond.constant RX8 221 (-1000000003), Cond.fieldLink RX8 10 "SplitClasses" "now" "LSplitClasses$State;", Cond.methodLink RX8 222 yX2_takeBack, Cond.instanceMethod yX2_takeBack, Cond.selects RX2 yX2_takeBack yX2_takeBack, Cond.initialized RX2, Cond.code yX2_takeBack cX2_takeBack 3 none, Cond.fieldLink RX2 18 "SplitClasses$History" "next" "I", Cond.fieldLink RX2 11 "SplitClasses$History" "ring" "[LSplitClasses$State;", Cond.fieldLink RX2 22 "SplitClasses$History" "count" "I", Cond.methodLink RX2 35 yJ9_floorMod_7cf53, Cond.static yJ9_floorMod_7cf53, Cond.initialized RJ9, Cond.code yJ9_floorMod_7cf53 cJ9_floorMod_7cf53 3 (some .int), Cond.methodLink RX2 25 yX6_copyFrom, Cond.instanceMethod yX6_copyFrom, Cond.selects RX6 yX6_copyFrom yX6_copyFrom, Cond.initialized RX6, Cond.code yX6_copyFrom cX6_copyFrom 2 none, Cond.fieldLink RX6 32 "SplitClasses$State" "n" "I", Cond.fieldLink RX6 42 "SplitClasses$State" "letterCount" "I"]
def wsX8_undo_r2 : List Cond := [Cond.fieldLink RX6 48 "SplitClasses$State" "finalSet" "I", Cond.fieldLink RX6 58 "SplitClasses$State" "work" "I", Cond.fieldLink RX6 9 "SplitClasses$State" "columnSets" "[I", Cond.methodLink RX6 61 arraycopyName, Cond.native arraycopyName, Cond.static arraycopyName, Cond.initialized "java/lang/System", Cond.fieldLink RX6 15 "SplitClasses$State" "nearSets" "[I", Cond.fieldLink RX6 18 "SplitClasses$State" "leads" "[I", Cond.fieldLink RX6 24 "SplitClasses$State" "row" "LSplitClasses$Row;", Cond.methodLink RX6 67 yX5_copyFrom, Cond.instanceMethod yX5_copyFrom, Cond.selects RX5 yX5_copyFrom yX5_copyFrom, Cond.initialized RX5, Cond.code yX5_copyFrom cX5_copyFrom 2 none, Cond.fieldLink RX5 9 "SplitClasses$Row" "sets" "[I", Cond.methodLink RX5 19 arraycopyName, Cond.fieldLink RX5 15 "SplitClasses$Row" "count" "I"]
def wsX8_undo : List Cond := .code yX8_undo cX8_undo 2 (some .int) :: ((wsX8_undo_r1 ++ wsX8_undo_r2) ++ wsX80 ++ wsX20 ++ wsX60 ++ wsX50)
def wsX8_write : List Cond := .code yX8_write cX8_write 3 (some .int) :: ([.fieldLink RX8 10 "SplitClasses" "now" "LSplitClasses$State;", .constant RX8 118 (-1000000001), .fieldLink RX8 26 "SplitClasses" "book" "LSplitClasses$Book;", .fieldLink RX8 103 "SplitClasses$Book" "size" "I", .constant RX8 226 (-1000000004), .methodLink RX8 114 yX6_hasItem, .instanceMethod yX6_hasItem, .selects RX6 yX6_hasItem yX6_hasItem, .initialized RX6, .code yX6_hasItem cX6_hasItem 2 (some .boolean), .fieldLink RX6 32 "SplitClasses$State" "n" "I", .methodLink RX8 227 yX0_append, .instanceMethod yX0_append, .selects RX0 yX0_append yX0_append, .initialized RX0, .code yX0_append cX0_append 3 none, .fieldLink RX0 18 "SplitClasses$Book" "size" "I", .fieldLink RX0 9 "SplitClasses$Book" "entryItems" "[I", .fieldLink RX0 15 "SplitClasses$Book" "entryClasses" "[I"] ++ wsX80 ++ wsX00 ++ wsX60)
def wsX8_tear : List Cond := .code yX8_tear cX8_tear 2 (some .int) :: ([.fieldLink RX8 26 "SplitClasses" "book" "LSplitClasses$Book;", .fieldLink RX8 103 "SplitClasses$Book" "size" "I"] ++ wsX80 ++ wsX00)
def wsX8_seed : List Cond := .code yX8_seed cX8_seed 3 (some .int) :: ([.constant RX8 113 (-1000000002), .fieldLink RX8 61 "SplitClasses" "draws" "LSplitClasses$Draws;", .fieldLink RX8 110 "SplitClasses$Draws" "state" "I"] ++ wsX80 ++ wsX10)
def wsX8_keep_r1 : List Cond := [Cond.constant RX8 118 (-1000000001), Cond.fieldLink RX8 32 "SplitClasses" "images" "[LSplitClasses$Image;", Cond.fieldLink RX8 230 "SplitClasses$Image" "kept" "Z", Cond.fieldLink RX8 234 "SplitClasses$Image" "state" "LSplitClasses$State;", Cond.fieldLink RX8 10 "SplitClasses" "now" "LSplitClasses$State;", Cond.fieldLink RX8 61 "SplitClasses" "draws" "LSplitClasses$Draws;", Cond.fieldLink RX8 110 "SplitClasses$Draws" "state" "I", Cond.fieldLink RX8 238 "SplitClasses$Image" "drawState" "I", Cond.fieldLink RX8 19 "SplitClasses" "history" "LSplitClasses$History;", Cond.fieldLink RX8 109 "SplitClasses$History" "count" "I", Cond.methodLink RX8 236 yX6_copyFrom, Cond.instanceMethod yX6_copyFrom, Cond.selects RX6 yX6_copyFrom yX6_copyFrom, Cond.initialized RX6, Cond.code yX6_copyFrom cX6_copyFrom 2 none, Cond.fieldLink RX6 32 "SplitClasses$State" "n" "I", Cond.fieldLink RX6 42 "SplitClasses$State" "letterCount" "I", Cond.fieldLink RX6 48 "SplitClasses$State" "finalSet" "I", Cond.fieldLink RX6 58 "SplitClasses$State" "work" "I", Cond.fieldLink RX6 9 "SplitClasses$State" "columnSets" "[I", Cond.methodLink RX6 61 arraycopyName, Cond.native arraycopyName, Cond.static arraycopyName, Cond.initialized "java/lang/System"]
def wsX8_keep_r2 : List Cond := [Cond.fieldLink RX6 15 "SplitClasses$State" "nearSets" "[I", Cond.fieldLink RX6 18 "SplitClasses$State" "leads" "[I", Cond.fieldLink RX6 24 "SplitClasses$State" "row" "LSplitClasses$Row;", Cond.methodLink RX6 67 yX5_copyFrom, Cond.instanceMethod yX5_copyFrom, Cond.selects RX5 yX5_copyFrom yX5_copyFrom, Cond.initialized RX5, Cond.code yX5_copyFrom cX5_copyFrom 2 none, Cond.fieldLink RX5 9 "SplitClasses$Row" "sets" "[I", Cond.methodLink RX5 19 arraycopyName, Cond.fieldLink RX5 15 "SplitClasses$Row" "count" "I"]
def wsX8_keep : List Cond := .code yX8_keep cX8_keep 2 (some .int) :: ((wsX8_keep_r1 ++ wsX8_keep_r2) ++ wsX80 ++ wsX30 ++ wsX10 ++ wsX20 ++ wsX60 ++ wsX50)
def wsX8_goBack_r1 : List Cond := [Cond.constant RX8 118 (-1000000001), Cond.fieldLink RX8 32 "SplitClasses" "images" "[LSplitClasses$Image;", Cond.fieldLink RX8 230 "SplitClasses$Image" "kept" "Z", Cond.constant RX8 221 (-1000000003), Cond.fieldLink RX8 10 "SplitClasses" "now" "LSplitClasses$State;", Cond.fieldLink RX8 234 "SplitClasses$Image" "state" "LSplitClasses$State;", Cond.fieldLink RX8 61 "SplitClasses" "draws" "LSplitClasses$Draws;", Cond.fieldLink RX8 238 "SplitClasses$Image" "drawState" "I", Cond.fieldLink RX8 110 "SplitClasses$Draws" "state" "I", Cond.fieldLink RX8 19 "SplitClasses" "history" "LSplitClasses$History;", Cond.fieldLink RX8 109 "SplitClasses$History" "count" "I", Cond.methodLink RX8 236 yX6_copyFrom, Cond.instanceMethod yX6_copyFrom, Cond.selects RX6 yX6_copyFrom yX6_copyFrom, Cond.initialized RX6, Cond.code yX6_copyFrom cX6_copyFrom 2 none, Cond.fieldLink RX6 32 "SplitClasses$State" "n" "I", Cond.fieldLink RX6 42 "SplitClasses$State" "letterCount" "I", Cond.fieldLink RX6 48 "SplitClasses$State" "finalSet" "I", Cond.fieldLink RX6 58 "SplitClasses$State" "work" "I", Cond.fieldLink RX6 9 "SplitClasses$State" "columnSets" "[I", Cond.methodLink RX6 61 arraycopyName, Cond.native arraycopyName, Cond.static arraycopyName]
def wsX8_goBack_r2 : List Cond := [Cond.initialized "java/lang/System", Cond.fieldLink RX6 15 "SplitClasses$State" "nearSets" "[I", Cond.fieldLink RX6 18 "SplitClasses$State" "leads" "[I", Cond.fieldLink RX6 24 "SplitClasses$State" "row" "LSplitClasses$Row;", Cond.methodLink RX6 67 yX5_copyFrom, Cond.instanceMethod yX5_copyFrom, Cond.selects RX5 yX5_copyFrom yX5_copyFrom, Cond.initialized RX5, Cond.code yX5_copyFrom cX5_copyFrom 2 none, Cond.fieldLink RX5 9 "SplitClasses$Row" "sets" "[I", Cond.methodLink RX5 19 arraycopyName, Cond.fieldLink RX5 15 "SplitClasses$Row" "count" "I"]
def wsX8_goBack : List Cond := .code yX8_goBack cX8_goBack 2 (some .int) :: ((wsX8_goBack_r1 ++ wsX8_goBack_r2) ++ wsX80 ++ wsX30 ++ wsX10 ++ wsX20 ++ wsX60 ++ wsX50)
def wsX9_lays : List Cond := .code yX9_lays cX9_lays 4 none :: ([.fieldLink RX9 7 "SplitClassesModel" "st" "[I"] ++ wsX90)
def wsX9_init : List Cond := .code yX9_init cX9_init 1 none :: ([.methodLink RX9 1 objectInit, .instanceMethod objectInit, .code objectInit ⟨#[0xb1]⟩ 1 none, .arrayClass .int, .fieldLink RX9 7 "SplitClassesModel" "st" "[I", .fieldLink RX9 13 "SplitClassesModel" "past" "[I", .fieldLink RX9 16 "SplitClassesModel" "images" "[I", .arrayClass .boolean, .fieldLink RX9 19 "SplitClassesModel" "isKept" "[Z", .fieldLink RX9 23 "SplitClassesModel" "bookItem" "[I", .fieldLink RX9 26 "SplitClassesModel" "bookClass" "[I", .fieldLink RX9 29 "SplitClassesModel" "newRow" "[I", .fieldLink RX9 32 "SplitClassesModel" "isApart" "[Z", .fieldLink RX9 35 "SplitClassesModel" "isNow" "[Z", .fieldLink RX9 38 "SplitClassesModel" "aside" "[I", .fieldLink RX9 41 "SplitClassesModel" "pairs" "[I", .fieldLink RX9 44 "SplitClassesModel" "far" "[I", .fieldLink RX9 47 "SplitClassesModel" "isMet" "[Z", .fieldLink RX9 50 "SplitClassesModel" "searched" "[I", .methodLink RX9 53 yX9_lays, .instanceMethod yX9_lays, .selects RX9 yX9_lays yX9_lays, .initialized RX9, .code yX9_lays cX9_lays 4 none] ++ wsX90)
def wsX9_in : List Cond := .code yX9_in cX9_in 3 (some .boolean) :: ([])
def wsX9_has : List Cond := .code yX9_has cX9_has 2 (some .boolean) :: ([])
def wsX9_sizeOf : List Cond := .code yX9_sizeOf cX9_sizeOf 3 (some .int) :: ([])
def wsX9_bring : List Cond := .code yX9_bring cX9_bring 6 none :: ([])
def wsX9_isItem : List Cond := .code yX9_isItem cX9_isItem 2 (some .boolean) :: ([.fieldLink RX9 7 "SplitClassesModel" "st" "[I", .methodLink RX9 57 yX9_in, .static yX9_in, .initialized RX9, .code yX9_in cX9_in 3 (some .boolean)] ++ wsX90)
def wsX9_isSet : List Cond := .code yX9_isSet cX9_isSet 2 (some .boolean) :: ([.fieldLink RX9 7 "SplitClassesModel" "st" "[I", .methodLink RX9 57 yX9_in, .static yX9_in, .initialized RX9, .code yX9_in cX9_in 3 (some .boolean)] ++ wsX90)
def wsX9_notes : List Cond := .code yX9_notes cX9_notes 1 none :: ([.fieldLink RX9 61 "SplitClassesModel" "deeds" "I", .fieldLink RX9 13 "SplitClassesModel" "past" "[I", .fieldLink RX9 7 "SplitClassesModel" "st" "[I", .methodLink RX9 65 yX9_bring, .static yX9_bring, .initialized RX9, .code yX9_bring cX9_bring 6 none] ++ wsX90)
def wsX9_classes : List Cond := .code yX9_classes cX9_classes 5 (some .int) :: ([.fieldLink RX9 7 "SplitClassesModel" "st" "[I"] ++ wsX90)
def wsX9_membersOf : List Cond := .code yX9_membersOf cX9_membersOf 6 (some .int) :: ([.fieldLink RX9 7 "SplitClassesModel" "st" "[I"] ++ wsX90)
def wsX9_gives : List Cond := .code yX9_gives cX9_gives 6 none :: ([.fieldLink RX9 7 "SplitClassesModel" "st" "[I", .methodLink RX9 69 yX9_has, .static yX9_has, .initialized RX9, .code yX9_has cX9_has 2 (some .boolean)] ++ wsX90)
def wsX9_splits : List Cond := .code yX9_splits cX9_splits 9 none :: ([.fieldLink RX9 29 "SplitClassesModel" "newRow" "[I", .methodLink RX9 73 yX9_classes, .instanceMethod yX9_classes, .selects RX9 yX9_classes yX9_classes, .initialized RX9, .code yX9_classes cX9_classes 5 (some .int), .fieldLink RX9 7 "SplitClassesModel" "st" "[I", .methodLink RX9 65 yX9_bring, .static yX9_bring, .code yX9_bring cX9_bring 6 none, .methodLink RX9 77 yX9_membersOf, .instanceMethod yX9_membersOf, .selects RX9 yX9_membersOf yX9_membersOf, .code yX9_membersOf cX9_membersOf 6 (some .int), .methodLink RX9 81 yX9_gives, .instanceMethod yX9_gives, .selects RX9 yX9_gives yX9_gives, .code yX9_gives cX9_gives 6 none, .methodLink RX9 69 yX9_has, .static yX9_has, .code yX9_has cX9_has 2 (some .boolean)] ++ wsX90)
def wsX9_arranges : List Cond := .code yX9_arranges cX9_arranges 6 none :: ([.fieldLink RX9 29 "SplitClassesModel" "newRow" "[I", .fieldLink RX9 7 "SplitClassesModel" "st" "[I", .methodLink RX9 65 yX9_bring, .static yX9_bring, .initialized RX9, .code yX9_bring cX9_bring 6 none, .methodLink RX9 77 yX9_membersOf, .instanceMethod yX9_membersOf, .selects RX9 yX9_membersOf yX9_membersOf, .code yX9_membersOf cX9_membersOf 6 (some .int), .methodLink RX9 81 yX9_gives, .instanceMethod yX9_gives, .selects RX9 yX9_gives yX9_gives, .code yX9_gives cX9_gives 6 none, .methodLink RX9 69 yX9_has, .static yX9_has, .code yX9_has cX9_has 2 (some .boolean)] ++ wsX90)
def wsX9_columnSet : List Cond := .code yX9_columnSet cX9_columnSet 4 (some .int) :: ([.fieldLink RX9 7 "SplitClassesModel" "st" "[I", .methodLink RX9 69 yX9_has, .static yX9_has, .initialized RX9, .code yX9_has cX9_has 2 (some .boolean)] ++ wsX90)
def wsX9_leadsTo : List Cond := .code yX9_leadsTo cX9_leadsTo 5 (some .int) :: ([.fieldLink RX9 7 "SplitClassesModel" "st" "[I"] ++ wsX90)
def wsX9_atLeast : List Cond := .code yX9_atLeast cX9_atLeast 6 (some .int) :: ([.fieldLink RX9 7 "SplitClassesModel" "st" "[I", .methodLink RX9 77 yX9_membersOf, .instanceMethod yX9_membersOf, .selects RX9 yX9_membersOf yX9_membersOf, .initialized RX9, .code yX9_membersOf cX9_membersOf 6 (some .int), .methodLink RX9 85 yX9_sizeOf, .static yX9_sizeOf, .code yX9_sizeOf cX9_sizeOf 3 (some .int)] ++ wsX90)
def wsX9_askedBy : List Cond := .code yX9_askedBy cX9_askedBy 5 (some .int) :: ([.fieldLink RX9 7 "SplitClassesModel" "st" "[I", .constant RX9 93 (-1000000001), .constant RX9 94 (-1000000002), .methodLink RX9 73 yX9_classes, .instanceMethod yX9_classes, .selects RX9 yX9_classes yX9_classes, .initialized RX9, .code yX9_classes cX9_classes 5 (some .int), .methodLink RX9 89 yX9_isItem, .instanceMethod yX9_isItem, .selects RX9 yX9_isItem yX9_isItem, .code yX9_isItem cX9_isItem 2 (some .boolean), .methodLink RX9 57 yX9_in, .static yX9_in, .code yX9_in cX9_in 3 (some .boolean)] ++ wsX90)
def wsX9_setOf : List Cond := .code yX9_setOf cX9_setOf 4 (some .int) :: ([.fieldLink RX9 7 "SplitClassesModel" "st" "[I", .methodLink RX9 95 yX9_columnSet, .instanceMethod yX9_columnSet, .selects RX9 yX9_columnSet yX9_columnSet, .initialized RX9, .code yX9_columnSet cX9_columnSet 4 (some .int), .methodLink RX9 69 yX9_has, .static yX9_has, .code yX9_has cX9_has 2 (some .boolean), .methodLink RX9 98 yX9_leadsTo, .instanceMethod yX9_leadsTo, .selects RX9 yX9_leadsTo yX9_leadsTo, .code yX9_leadsTo cX9_leadsTo 5 (some .int), .methodLink RX9 102 yX9_atLeast, .instanceMethod yX9_atLeast, .selects RX9 yX9_atLeast yX9_atLeast, .code yX9_atLeast cX9_atLeast 6 (some .int), .methodLink RX9 77 yX9_membersOf, .instanceMethod yX9_membersOf, .selects RX9 yX9_membersOf yX9_membersOf, .code yX9_membersOf cX9_membersOf 6 (some .int), .methodLink RX9 85 yX9_sizeOf, .static yX9_sizeOf, .code yX9_sizeOf cX9_sizeOf 3 (some .int)] ++ wsX90)
def wsX9_setBy_r1 : List Cond := [Cond.methodLink RX9 105 yX9_askedBy, Cond.instanceMethod yX9_askedBy, Cond.selects RX9 yX9_askedBy yX9_askedBy, Cond.initialized RX9, Cond.code yX9_askedBy cX9_askedBy 5 (some .int), Cond.fieldLink RX9 7 "SplitClassesModel" "st" "[I", Cond.constant RX9 93 (-1000000001), Cond.constant RX9 94 (-1000000002), Cond.methodLink RX9 73 yX9_classes, Cond.instanceMethod yX9_classes, Cond.selects RX9 yX9_classes yX9_classes, Cond.code yX9_classes cX9_classes 5 (some .int), Cond.methodLink RX9 89 yX9_isItem, Cond.instanceMethod yX9_isItem, Cond.selects RX9 yX9_isItem yX9_isItem, Cond.code yX9_isItem cX9_isItem 2 (some .boolean), Cond.methodLink RX9 57 yX9_in, Cond.static yX9_in, Cond.code yX9_in cX9_in 3 (some .boolean), Cond.methodLink RX9 109 yX9_setOf, Cond.instanceMethod yX9_setOf, Cond.selects RX9 yX9_setOf yX9_setOf, Cond.code yX9_setOf cX9_setOf 4 (some .int), Cond.methodLink RX9 95 yX9_columnSet]
def wsX9_setBy_r2 : List Cond := [Cond.instanceMethod yX9_columnSet, Cond.selects RX9 yX9_columnSet yX9_columnSet, Cond.code yX9_columnSet cX9_columnSet 4 (some .int), Cond.methodLink RX9 69 yX9_has, Cond.static yX9_has, Cond.code yX9_has cX9_has 2 (some .boolean), Cond.methodLink RX9 98 yX9_leadsTo, Cond.instanceMethod yX9_leadsTo, Cond.selects RX9 yX9_leadsTo yX9_leadsTo, Cond.code yX9_leadsTo cX9_leadsTo 5 (some .int), Cond.methodLink RX9 102 yX9_atLeast, Cond.instanceMethod yX9_atLeast, Cond.selects RX9 yX9_atLeast yX9_atLeast, Cond.code yX9_atLeast cX9_atLeast 6 (some .int), Cond.methodLink RX9 77 yX9_membersOf, Cond.instanceMethod yX9_membersOf, Cond.selects RX9 yX9_membersOf yX9_membersOf, Cond.code yX9_membersOf cX9_membersOf 6 (some .int), Cond.methodLink RX9 85 yX9_sizeOf, Cond.static yX9_sizeOf, Cond.code yX9_sizeOf cX9_sizeOf 3 (some .int)]
def wsX9_setBy : List Cond := .code yX9_setBy cX9_setBy 5 (some .int) :: ((wsX9_setBy_r1 ++ wsX9_setBy_r2) ++ wsX90)
def wsX9_isOneMore : List Cond := .code yX9_isOneMore cX9_isOneMore 10 (some .boolean) :: ([.fieldLink RX9 7 "SplitClassesModel" "st" "[I", .fieldLink RX9 32 "SplitClassesModel" "isApart" "[Z", .methodLink RX9 85 yX9_sizeOf, .static yX9_sizeOf, .initialized RX9, .code yX9_sizeOf cX9_sizeOf 3 (some .int)] ++ wsX90)
def wsX9_tellsApart_r1 : List Cond := [Cond.fieldLink RX9 7 "SplitClassesModel" "st" "[I", Cond.fieldLink RX9 32 "SplitClassesModel" "isApart" "[Z", Cond.fieldLink RX9 35 "SplitClassesModel" "isNow" "[Z", Cond.fieldLink RX9 29 "SplitClassesModel" "newRow" "[I", Cond.methodLink RX9 69 yX9_has, Cond.static yX9_has, Cond.initialized RX9, Cond.code yX9_has cX9_has 2 (some .boolean), Cond.methodLink RX9 112 yX9_isOneMore, Cond.instanceMethod yX9_isOneMore, Cond.selects RX9 yX9_isOneMore yX9_isOneMore, Cond.code yX9_isOneMore cX9_isOneMore 10 (some .boolean), Cond.methodLink RX9 85 yX9_sizeOf, Cond.static yX9_sizeOf, Cond.code yX9_sizeOf cX9_sizeOf 3 (some .int), Cond.methodLink RX9 65 yX9_bring, Cond.static yX9_bring, Cond.code yX9_bring cX9_bring 6 none, Cond.methodLink RX9 116 yX9_arranges, Cond.instanceMethod yX9_arranges, Cond.selects RX9 yX9_arranges yX9_arranges, Cond.code yX9_arranges cX9_arranges 6 none, Cond.methodLink RX9 77 yX9_membersOf, Cond.instanceMethod yX9_membersOf]
def wsX9_tellsApart_r2 : List Cond := [Cond.selects RX9 yX9_membersOf yX9_membersOf, Cond.code yX9_membersOf cX9_membersOf 6 (some .int), Cond.methodLink RX9 81 yX9_gives, Cond.instanceMethod yX9_gives, Cond.selects RX9 yX9_gives yX9_gives, Cond.code yX9_gives cX9_gives 6 none]
def wsX9_tellsApart : List Cond := .code yX9_tellsApart cX9_tellsApart 7 none :: ((wsX9_tellsApart_r1 ++ wsX9_tellsApart_r2) ++ wsX90)
def wsX9_refines_r1 : List Cond := [Cond.fieldLink RX9 7 "SplitClassesModel" "st" "[I", Cond.methodLink RX9 120 yX9_tellsApart, Cond.instanceMethod yX9_tellsApart, Cond.selects RX9 yX9_tellsApart yX9_tellsApart, Cond.initialized RX9, Cond.code yX9_tellsApart cX9_tellsApart 7 none, Cond.fieldLink RX9 32 "SplitClassesModel" "isApart" "[Z", Cond.fieldLink RX9 35 "SplitClassesModel" "isNow" "[Z", Cond.fieldLink RX9 29 "SplitClassesModel" "newRow" "[I", Cond.methodLink RX9 69 yX9_has, Cond.static yX9_has, Cond.code yX9_has cX9_has 2 (some .boolean), Cond.methodLink RX9 112 yX9_isOneMore, Cond.instanceMethod yX9_isOneMore, Cond.selects RX9 yX9_isOneMore yX9_isOneMore, Cond.code yX9_isOneMore cX9_isOneMore 10 (some .boolean), Cond.methodLink RX9 85 yX9_sizeOf, Cond.static yX9_sizeOf, Cond.code yX9_sizeOf cX9_sizeOf 3 (some .int), Cond.methodLink RX9 65 yX9_bring, Cond.static yX9_bring, Cond.code yX9_bring cX9_bring 6 none, Cond.methodLink RX9 116 yX9_arranges, Cond.instanceMethod yX9_arranges]
def wsX9_refines_r2 : List Cond := [Cond.selects RX9 yX9_arranges yX9_arranges, Cond.code yX9_arranges cX9_arranges 6 none, Cond.methodLink RX9 77 yX9_membersOf, Cond.instanceMethod yX9_membersOf, Cond.selects RX9 yX9_membersOf yX9_membersOf, Cond.code yX9_membersOf cX9_membersOf 6 (some .int), Cond.methodLink RX9 81 yX9_gives, Cond.instanceMethod yX9_gives, Cond.selects RX9 yX9_gives yX9_gives, Cond.code yX9_gives cX9_gives 6 none, Cond.methodLink RX9 109 yX9_setOf, Cond.instanceMethod yX9_setOf, Cond.selects RX9 yX9_setOf yX9_setOf, Cond.code yX9_setOf cX9_setOf 4 (some .int), Cond.methodLink RX9 95 yX9_columnSet, Cond.instanceMethod yX9_columnSet, Cond.selects RX9 yX9_columnSet yX9_columnSet, Cond.code yX9_columnSet cX9_columnSet 4 (some .int), Cond.methodLink RX9 98 yX9_leadsTo, Cond.instanceMethod yX9_leadsTo, Cond.selects RX9 yX9_leadsTo yX9_leadsTo, Cond.code yX9_leadsTo cX9_leadsTo 5 (some .int), Cond.methodLink RX9 102 yX9_atLeast, Cond.instanceMethod yX9_atLeast]
def wsX9_refines_r3 : List Cond := [Cond.selects RX9 yX9_atLeast yX9_atLeast, Cond.code yX9_atLeast cX9_atLeast 6 (some .int), Cond.methodLink RX9 124 yX9_splits, Cond.instanceMethod yX9_splits, Cond.selects RX9 yX9_splits yX9_splits, Cond.code yX9_splits cX9_splits 9 none, Cond.methodLink RX9 73 yX9_classes, Cond.instanceMethod yX9_classes, Cond.selects RX9 yX9_classes yX9_classes, Cond.code yX9_classes cX9_classes 5 (some .int)]
def wsX9_refines : List Cond := .code yX9_refines cX9_refines 6 none :: ((wsX9_refines_r1 ++ (wsX9_refines_r2 ++ wsX9_refines_r3)) ++ wsX90)
def wsX9_ofItself_r1 : List Cond := [Cond.fieldLink RX9 38 "SplitClassesModel" "aside" "[I", Cond.methodLink RX9 127 yX9_refines, Cond.instanceMethod yX9_refines, Cond.selects RX9 yX9_refines yX9_refines, Cond.initialized RX9, Cond.code yX9_refines cX9_refines 6 none, Cond.fieldLink RX9 7 "SplitClassesModel" "st" "[I", Cond.methodLink RX9 120 yX9_tellsApart, Cond.instanceMethod yX9_tellsApart, Cond.selects RX9 yX9_tellsApart yX9_tellsApart, Cond.code yX9_tellsApart cX9_tellsApart 7 none, Cond.fieldLink RX9 32 "SplitClassesModel" "isApart" "[Z", Cond.fieldLink RX9 35 "SplitClassesModel" "isNow" "[Z", Cond.fieldLink RX9 29 "SplitClassesModel" "newRow" "[I", Cond.methodLink RX9 69 yX9_has, Cond.static yX9_has, Cond.code yX9_has cX9_has 2 (some .boolean), Cond.methodLink RX9 112 yX9_isOneMore, Cond.instanceMethod yX9_isOneMore, Cond.selects RX9 yX9_isOneMore yX9_isOneMore, Cond.code yX9_isOneMore cX9_isOneMore 10 (some .boolean), Cond.methodLink RX9 85 yX9_sizeOf, Cond.static yX9_sizeOf, Cond.code yX9_sizeOf cX9_sizeOf 3 (some .int)]
def wsX9_ofItself_r2 : List Cond := [Cond.methodLink RX9 65 yX9_bring, Cond.static yX9_bring, Cond.code yX9_bring cX9_bring 6 none, Cond.methodLink RX9 116 yX9_arranges, Cond.instanceMethod yX9_arranges, Cond.selects RX9 yX9_arranges yX9_arranges, Cond.code yX9_arranges cX9_arranges 6 none, Cond.methodLink RX9 77 yX9_membersOf, Cond.instanceMethod yX9_membersOf, Cond.selects RX9 yX9_membersOf yX9_membersOf, Cond.code yX9_membersOf cX9_membersOf 6 (some .int), Cond.methodLink RX9 81 yX9_gives, Cond.instanceMethod yX9_gives, Cond.selects RX9 yX9_gives yX9_gives, Cond.code yX9_gives cX9_gives 6 none, Cond.methodLink RX9 109 yX9_setOf, Cond.instanceMethod yX9_setOf, Cond.selects RX9 yX9_setOf yX9_setOf, Cond.code yX9_setOf cX9_setOf 4 (some .int), Cond.methodLink RX9 95 yX9_columnSet, Cond.instanceMethod yX9_columnSet, Cond.selects RX9 yX9_columnSet yX9_columnSet, Cond.code yX9_columnSet cX9_columnSet 4 (some .int), Cond.methodLink RX9 98 yX9_leadsTo]
def wsX9_ofItself_r3 : List Cond := [Cond.instanceMethod yX9_leadsTo, Cond.selects RX9 yX9_leadsTo yX9_leadsTo, Cond.code yX9_leadsTo cX9_leadsTo 5 (some .int), Cond.methodLink RX9 102 yX9_atLeast, Cond.instanceMethod yX9_atLeast, Cond.selects RX9 yX9_atLeast yX9_atLeast, Cond.code yX9_atLeast cX9_atLeast 6 (some .int), Cond.methodLink RX9 124 yX9_splits, Cond.instanceMethod yX9_splits, Cond.selects RX9 yX9_splits yX9_splits, Cond.code yX9_splits cX9_splits 9 none, Cond.methodLink RX9 73 yX9_classes, Cond.instanceMethod yX9_classes, Cond.selects RX9 yX9_classes yX9_classes, Cond.code yX9_classes cX9_classes 5 (some .int)]
def wsX9_ofItself : List Cond := .code yX9_ofItself cX9_ofItself 3 none :: ((wsX9_ofItself_r1 ++ (wsX9_ofItself_r2 ++ wsX9_ofItself_r3)) ++ wsX90)
def wsX9_refinedMany_r1 : List Cond := [Cond.fieldLink RX9 38 "SplitClassesModel" "aside" "[I", Cond.methodLink RX9 130 yX9_ofItself, Cond.instanceMethod yX9_ofItself, Cond.selects RX9 yX9_ofItself yX9_ofItself, Cond.initialized RX9, Cond.code yX9_ofItself cX9_ofItself 3 none, Cond.methodLink RX9 127 yX9_refines, Cond.instanceMethod yX9_refines, Cond.selects RX9 yX9_refines yX9_refines, Cond.code yX9_refines cX9_refines 6 none, Cond.fieldLink RX9 7 "SplitClassesModel" "st" "[I", Cond.methodLink RX9 120 yX9_tellsApart, Cond.instanceMethod yX9_tellsApart, Cond.selects RX9 yX9_tellsApart yX9_tellsApart, Cond.code yX9_tellsApart cX9_tellsApart 7 none, Cond.fieldLink RX9 32 "SplitClassesModel" "isApart" "[Z", Cond.fieldLink RX9 35 "SplitClassesModel" "isNow" "[Z", Cond.fieldLink RX9 29 "SplitClassesModel" "newRow" "[I", Cond.methodLink RX9 69 yX9_has, Cond.static yX9_has, Cond.code yX9_has cX9_has 2 (some .boolean), Cond.methodLink RX9 112 yX9_isOneMore, Cond.instanceMethod yX9_isOneMore, Cond.selects RX9 yX9_isOneMore yX9_isOneMore]
def wsX9_refinedMany_r2 : List Cond := [Cond.code yX9_isOneMore cX9_isOneMore 10 (some .boolean), Cond.methodLink RX9 85 yX9_sizeOf, Cond.static yX9_sizeOf, Cond.code yX9_sizeOf cX9_sizeOf 3 (some .int), Cond.methodLink RX9 65 yX9_bring, Cond.static yX9_bring, Cond.code yX9_bring cX9_bring 6 none, Cond.methodLink RX9 116 yX9_arranges, Cond.instanceMethod yX9_arranges, Cond.selects RX9 yX9_arranges yX9_arranges, Cond.code yX9_arranges cX9_arranges 6 none, Cond.methodLink RX9 77 yX9_membersOf, Cond.instanceMethod yX9_membersOf, Cond.selects RX9 yX9_membersOf yX9_membersOf, Cond.code yX9_membersOf cX9_membersOf 6 (some .int), Cond.methodLink RX9 81 yX9_gives, Cond.instanceMethod yX9_gives, Cond.selects RX9 yX9_gives yX9_gives, Cond.code yX9_gives cX9_gives 6 none, Cond.methodLink RX9 109 yX9_setOf, Cond.instanceMethod yX9_setOf, Cond.selects RX9 yX9_setOf yX9_setOf, Cond.code yX9_setOf cX9_setOf 4 (some .int), Cond.methodLink RX9 95 yX9_columnSet]
def wsX9_refinedMany_r3 : List Cond := [Cond.instanceMethod yX9_columnSet, Cond.selects RX9 yX9_columnSet yX9_columnSet, Cond.code yX9_columnSet cX9_columnSet 4 (some .int), Cond.methodLink RX9 98 yX9_leadsTo, Cond.instanceMethod yX9_leadsTo, Cond.selects RX9 yX9_leadsTo yX9_leadsTo, Cond.code yX9_leadsTo cX9_leadsTo 5 (some .int), Cond.methodLink RX9 102 yX9_atLeast, Cond.instanceMethod yX9_atLeast, Cond.selects RX9 yX9_atLeast yX9_atLeast, Cond.code yX9_atLeast cX9_atLeast 6 (some .int), Cond.methodLink RX9 124 yX9_splits, Cond.instanceMethod yX9_splits, Cond.selects RX9 yX9_splits yX9_splits, Cond.code yX9_splits cX9_splits 9 none, Cond.methodLink RX9 73 yX9_classes, Cond.instanceMethod yX9_classes, Cond.selects RX9 yX9_classes yX9_classes, Cond.code yX9_classes cX9_classes 5 (some .int)]
def wsX9_refinedMany : List Cond := .code yX9_refinedMany cX9_refinedMany 2 (some .int) :: ((wsX9_refinedMany_r1 ++ (wsX9_refinedMany_r2 ++ wsX9_refinedMany_r3)) ++ wsX90)
def wsX9_alike_r1 : List Cond := [Cond.constant RX9 93 (-1000000001), Cond.constant RX9 94 (-1000000002), Cond.fieldLink RX9 38 "SplitClassesModel" "aside" "[I", Cond.methodLink RX9 89 yX9_isItem, Cond.instanceMethod yX9_isItem, Cond.selects RX9 yX9_isItem yX9_isItem, Cond.initialized RX9, Cond.code yX9_isItem cX9_isItem 2 (some .boolean), Cond.fieldLink RX9 7 "SplitClassesModel" "st" "[I", Cond.methodLink RX9 57 yX9_in, Cond.static yX9_in, Cond.code yX9_in cX9_in 3 (some .boolean), Cond.methodLink RX9 130 yX9_ofItself, Cond.instanceMethod yX9_ofItself, Cond.selects RX9 yX9_ofItself yX9_ofItself, Cond.code yX9_ofItself cX9_ofItself 3 none, Cond.methodLink RX9 127 yX9_refines, Cond.instanceMethod yX9_refines, Cond.selects RX9 yX9_refines yX9_refines, Cond.code yX9_refines cX9_refines 6 none, Cond.methodLink RX9 120 yX9_tellsApart, Cond.instanceMethod yX9_tellsApart, Cond.selects RX9 yX9_tellsApart yX9_tellsApart, Cond.code yX9_tellsApart cX9_tellsApart 7 none]
def wsX9_alike_r2 : List Cond := [Cond.fieldLink RX9 32 "SplitClassesModel" "isApart" "[Z", Cond.fieldLink RX9 35 "SplitClassesModel" "isNow" "[Z", Cond.fieldLink RX9 29 "SplitClassesModel" "newRow" "[I", Cond.methodLink RX9 69 yX9_has, Cond.static yX9_has, Cond.code yX9_has cX9_has 2 (some .boolean), Cond.methodLink RX9 112 yX9_isOneMore, Cond.instanceMethod yX9_isOneMore, Cond.selects RX9 yX9_isOneMore yX9_isOneMore, Cond.code yX9_isOneMore cX9_isOneMore 10 (some .boolean), Cond.methodLink RX9 85 yX9_sizeOf, Cond.static yX9_sizeOf, Cond.code yX9_sizeOf cX9_sizeOf 3 (some .int), Cond.methodLink RX9 65 yX9_bring, Cond.static yX9_bring, Cond.code yX9_bring cX9_bring 6 none, Cond.methodLink RX9 116 yX9_arranges, Cond.instanceMethod yX9_arranges, Cond.selects RX9 yX9_arranges yX9_arranges, Cond.code yX9_arranges cX9_arranges 6 none, Cond.methodLink RX9 77 yX9_membersOf, Cond.instanceMethod yX9_membersOf, Cond.selects RX9 yX9_membersOf yX9_membersOf, Cond.code yX9_membersOf cX9_membersOf 6 (some .int)]
def wsX9_alike_r3 : List Cond := [Cond.methodLink RX9 81 yX9_gives, Cond.instanceMethod yX9_gives, Cond.selects RX9 yX9_gives yX9_gives, Cond.code yX9_gives cX9_gives 6 none, Cond.methodLink RX9 109 yX9_setOf, Cond.instanceMethod yX9_setOf, Cond.selects RX9 yX9_setOf yX9_setOf, Cond.code yX9_setOf cX9_setOf 4 (some .int), Cond.methodLink RX9 95 yX9_columnSet, Cond.instanceMethod yX9_columnSet, Cond.selects RX9 yX9_columnSet yX9_columnSet, Cond.code yX9_columnSet cX9_columnSet 4 (some .int), Cond.methodLink RX9 98 yX9_leadsTo, Cond.instanceMethod yX9_leadsTo, Cond.selects RX9 yX9_leadsTo yX9_leadsTo, Cond.code yX9_leadsTo cX9_leadsTo 5 (some .int), Cond.methodLink RX9 102 yX9_atLeast, Cond.instanceMethod yX9_atLeast, Cond.selects RX9 yX9_atLeast yX9_atLeast, Cond.code yX9_atLeast cX9_atLeast 6 (some .int), Cond.methodLink RX9 124 yX9_splits, Cond.instanceMethod yX9_splits, Cond.selects RX9 yX9_splits yX9_splits, Cond.code yX9_splits cX9_splits 9 none]
def wsX9_alike_r4 : List Cond := [Cond.methodLink RX9 73 yX9_classes, Cond.instanceMethod yX9_classes, Cond.selects RX9 yX9_classes yX9_classes, Cond.code yX9_classes cX9_classes 5 (some .int)]
def wsX9_alike : List Cond := .code yX9_alike cX9_alike 4 (some .int) :: ((wsX9_alike_r1 ++ (wsX9_alike_r2 ++ (wsX9_alike_r3 ++ wsX9_alike_r4))) ++ wsX90)
def wsX9_apart : List Cond := .code yX9_apart cX9_apart 9 (some .int) :: ([.constant RX9 93 (-1000000001), .fieldLink RX9 47 "SplitClassesModel" "isMet" "[Z", .fieldLink RX9 41 "SplitClassesModel" "pairs" "[I", .fieldLink RX9 44 "SplitClassesModel" "far" "[I", .fieldLink RX9 7 "SplitClassesModel" "st" "[I", .methodLink RX9 89 yX9_isItem, .instanceMethod yX9_isItem, .selects RX9 yX9_isItem yX9_isItem, .initialized RX9, .code yX9_isItem cX9_isItem 2 (some .boolean), .methodLink RX9 57 yX9_in, .static yX9_in, .code yX9_in cX9_in 3 (some .boolean), .methodLink RX9 69 yX9_has, .static yX9_has, .code yX9_has cX9_has 2 (some .boolean)] ++ wsX90)
def wsX9_leastOf : List Cond := .code yX9_leastOf cX9_leastOf 3 (some .int) :: ([.methodLink RX9 69 yX9_has, .static yX9_has, .initialized RX9, .code yX9_has cX9_has 2 (some .boolean)])
def wsX9_searches_r1 : List Cond := [Cond.fieldLink RX9 38 "SplitClassesModel" "aside" "[I", Cond.fieldLink RX9 7 "SplitClassesModel" "st" "[I", Cond.fieldLink RX9 50 "SplitClassesModel" "searched" "[I", Cond.methodLink RX9 77 yX9_membersOf, Cond.instanceMethod yX9_membersOf, Cond.selects RX9 yX9_membersOf yX9_membersOf, Cond.initialized RX9, Cond.code yX9_membersOf cX9_membersOf 6 (some .int), Cond.methodLink RX9 133 yX9_leastOf, Cond.instanceMethod yX9_leastOf, Cond.selects RX9 yX9_leastOf yX9_leastOf, Cond.code yX9_leastOf cX9_leastOf 3 (some .int), Cond.methodLink RX9 69 yX9_has, Cond.static yX9_has, Cond.code yX9_has cX9_has 2 (some .boolean), Cond.methodLink RX9 124 yX9_splits, Cond.instanceMethod yX9_splits, Cond.selects RX9 yX9_splits yX9_splits, Cond.code yX9_splits cX9_splits 9 none, Cond.fieldLink RX9 29 "SplitClassesModel" "newRow" "[I", Cond.methodLink RX9 73 yX9_classes, Cond.instanceMethod yX9_classes, Cond.selects RX9 yX9_classes yX9_classes, Cond.code yX9_classes cX9_classes 5 (some .int)]
def wsX9_searches_r2 : List Cond := [Cond.methodLink RX9 65 yX9_bring, Cond.static yX9_bring, Cond.code yX9_bring cX9_bring 6 none, Cond.methodLink RX9 81 yX9_gives, Cond.instanceMethod yX9_gives, Cond.selects RX9 yX9_gives yX9_gives, Cond.code yX9_gives cX9_gives 6 none]
def wsX9_searches : List Cond := .code yX9_searches cX9_searches 5 none :: ((wsX9_searches_r1 ++ wsX9_searches_r2) ++ wsX90)
def wsX9_search_r1 : List Cond := [Cond.constant RX9 93 (-1000000001), Cond.fieldLink RX9 50 "SplitClassesModel" "searched" "[I", Cond.methodLink RX9 89 yX9_isItem, Cond.instanceMethod yX9_isItem, Cond.selects RX9 yX9_isItem yX9_isItem, Cond.initialized RX9, Cond.code yX9_isItem cX9_isItem 2 (some .boolean), Cond.fieldLink RX9 7 "SplitClassesModel" "st" "[I", Cond.methodLink RX9 57 yX9_in, Cond.static yX9_in, Cond.code yX9_in cX9_in 3 (some .boolean), Cond.methodLink RX9 136 yX9_searches, Cond.instanceMethod yX9_searches, Cond.selects RX9 yX9_searches yX9_searches, Cond.code yX9_searches cX9_searches 5 none, Cond.fieldLink RX9 38 "SplitClassesModel" "aside" "[I", Cond.methodLink RX9 77 yX9_membersOf, Cond.instanceMethod yX9_membersOf, Cond.selects RX9 yX9_membersOf yX9_membersOf, Cond.code yX9_membersOf cX9_membersOf 6 (some .int), Cond.methodLink RX9 133 yX9_leastOf, Cond.instanceMethod yX9_leastOf, Cond.selects RX9 yX9_leastOf yX9_leastOf, Cond.code yX9_leastOf cX9_leastOf 3 (some .int)]
def wsX9_search_r2 : List Cond := [Cond.methodLink RX9 69 yX9_has, Cond.static yX9_has, Cond.code yX9_has cX9_has 2 (some .boolean), Cond.methodLink RX9 124 yX9_splits, Cond.instanceMethod yX9_splits, Cond.selects RX9 yX9_splits yX9_splits, Cond.code yX9_splits cX9_splits 9 none, Cond.fieldLink RX9 29 "SplitClassesModel" "newRow" "[I", Cond.methodLink RX9 73 yX9_classes, Cond.instanceMethod yX9_classes, Cond.selects RX9 yX9_classes yX9_classes, Cond.code yX9_classes cX9_classes 5 (some .int), Cond.methodLink RX9 65 yX9_bring, Cond.static yX9_bring, Cond.code yX9_bring cX9_bring 6 none, Cond.methodLink RX9 81 yX9_gives, Cond.instanceMethod yX9_gives, Cond.selects RX9 yX9_gives yX9_gives, Cond.code yX9_gives cX9_gives 6 none]
def wsX9_search : List Cond := .code yX9_search cX9_search 3 (some .int) :: ((wsX9_search_r1 ++ wsX9_search_r2) ++ wsX90)
def wsX9_faultNow_r1 : List Cond := [Cond.fieldLink RX9 7 "SplitClassesModel" "st" "[I", Cond.fieldLink RX9 50 "SplitClassesModel" "searched" "[I", Cond.methodLink RX9 136 yX9_searches, Cond.instanceMethod yX9_searches, Cond.selects RX9 yX9_searches yX9_searches, Cond.initialized RX9, Cond.code yX9_searches cX9_searches 5 none, Cond.fieldLink RX9 38 "SplitClassesModel" "aside" "[I", Cond.methodLink RX9 77 yX9_membersOf, Cond.instanceMethod yX9_membersOf, Cond.selects RX9 yX9_membersOf yX9_membersOf, Cond.code yX9_membersOf cX9_membersOf 6 (some .int), Cond.methodLink RX9 133 yX9_leastOf, Cond.instanceMethod yX9_leastOf, Cond.selects RX9 yX9_leastOf yX9_leastOf, Cond.code yX9_leastOf cX9_leastOf 3 (some .int), Cond.methodLink RX9 69 yX9_has, Cond.static yX9_has, Cond.code yX9_has cX9_has 2 (some .boolean), Cond.methodLink RX9 124 yX9_splits, Cond.instanceMethod yX9_splits, Cond.selects RX9 yX9_splits yX9_splits, Cond.code yX9_splits cX9_splits 9 none, Cond.fieldLink RX9 29 "SplitClassesModel" "newRow" "[I"]
def wsX9_faultNow_r2 : List Cond := [Cond.methodLink RX9 73 yX9_classes, Cond.instanceMethod yX9_classes, Cond.selects RX9 yX9_classes yX9_classes, Cond.code yX9_classes cX9_classes 5 (some .int), Cond.methodLink RX9 65 yX9_bring, Cond.static yX9_bring, Cond.code yX9_bring cX9_bring 6 none, Cond.methodLink RX9 81 yX9_gives, Cond.instanceMethod yX9_gives, Cond.selects RX9 yX9_gives yX9_gives, Cond.code yX9_gives cX9_gives 6 none]
def wsX9_faultNow : List Cond := .code yX9_faultNow cX9_faultNow 7 (some .int) :: ((wsX9_faultNow_r1 ++ wsX9_faultNow_r2) ++ wsX90)
def wsX9_cliqueNow_r1 : List Cond := [Cond.fieldLink RX9 7 "SplitClassesModel" "st" "[I", Cond.methodLink RX9 139 yX9_faultNow, Cond.instanceMethod yX9_faultNow, Cond.selects RX9 yX9_faultNow yX9_faultNow, Cond.initialized RX9, Cond.code yX9_faultNow cX9_faultNow 7 (some .int), Cond.fieldLink RX9 50 "SplitClassesModel" "searched" "[I", Cond.methodLink RX9 136 yX9_searches, Cond.instanceMethod yX9_searches, Cond.selects RX9 yX9_searches yX9_searches, Cond.code yX9_searches cX9_searches 5 none, Cond.fieldLink RX9 38 "SplitClassesModel" "aside" "[I", Cond.methodLink RX9 77 yX9_membersOf, Cond.instanceMethod yX9_membersOf, Cond.selects RX9 yX9_membersOf yX9_membersOf, Cond.code yX9_membersOf cX9_membersOf 6 (some .int), Cond.methodLink RX9 133 yX9_leastOf, Cond.instanceMethod yX9_leastOf, Cond.selects RX9 yX9_leastOf yX9_leastOf, Cond.code yX9_leastOf cX9_leastOf 3 (some .int), Cond.methodLink RX9 69 yX9_has, Cond.static yX9_has, Cond.code yX9_has cX9_has 2 (some .boolean), Cond.methodLink RX9 124 yX9_splits]
def wsX9_cliqueNow_r2 : List Cond := [Cond.instanceMethod yX9_splits, Cond.selects RX9 yX9_splits yX9_splits, Cond.code yX9_splits cX9_splits 9 none, Cond.fieldLink RX9 29 "SplitClassesModel" "newRow" "[I", Cond.methodLink RX9 73 yX9_classes, Cond.instanceMethod yX9_classes, Cond.selects RX9 yX9_classes yX9_classes, Cond.code yX9_classes cX9_classes 5 (some .int), Cond.methodLink RX9 65 yX9_bring, Cond.static yX9_bring, Cond.code yX9_bring cX9_bring 6 none, Cond.methodLink RX9 81 yX9_gives, Cond.instanceMethod yX9_gives, Cond.selects RX9 yX9_gives yX9_gives, Cond.code yX9_gives cX9_gives 6 none, Cond.methodLink RX9 85 yX9_sizeOf, Cond.static yX9_sizeOf, Cond.code yX9_sizeOf cX9_sizeOf 3 (some .int)]
def wsX9_cliqueNow : List Cond := .code yX9_cliqueNow cX9_cliqueNow 5 (some .int) :: ((wsX9_cliqueNow_r1 ++ wsX9_cliqueNow_r2) ++ wsX90)
def wsX9_edgesNow : List Cond := .code yX9_edgesNow cX9_edgesNow 3 (some .int) :: ([.fieldLink RX9 7 "SplitClassesModel" "st" "[I", .methodLink RX9 85 yX9_sizeOf, .static yX9_sizeOf, .initialized RX9, .code yX9_sizeOf cX9_sizeOf 3 (some .int)] ++ wsX90)
def wsX9_wrongNow : List Cond := .code yX9_wrongNow cX9_wrongNow 2 (some .int) :: ([.fieldLink RX9 143 "SplitClassesModel" "entries" "I", .fieldLink RX9 23 "SplitClassesModel" "bookItem" "[I", .fieldLink RX9 7 "SplitClassesModel" "st" "[I", .fieldLink RX9 26 "SplitClassesModel" "bookClass" "[I", .methodLink RX9 89 yX9_isItem, .instanceMethod yX9_isItem, .selects RX9 yX9_isItem yX9_isItem, .initialized RX9, .code yX9_isItem cX9_isItem 2 (some .boolean), .methodLink RX9 57 yX9_in, .static yX9_in, .code yX9_in cX9_in 3 (some .boolean)] ++ wsX90)
def wsX9_told_r1 : List Cond := [Cond.fieldLink RX9 7 "SplitClassesModel" "st" "[I", Cond.fieldLink RX9 143 "SplitClassesModel" "entries" "I", Cond.fieldLink RX9 61 "SplitClassesModel" "deeds" "I", Cond.fieldLink RX9 158 "SplitClassesModel" "seedNow" "I", Cond.constant RX9 94 (-1000000002), Cond.methodLink RX9 73 yX9_classes, Cond.instanceMethod yX9_classes, Cond.selects RX9 yX9_classes yX9_classes, Cond.initialized RX9, Cond.code yX9_classes cX9_classes 5 (some .int), Cond.methodLink RX9 146 yX9_edgesNow, Cond.instanceMethod yX9_edgesNow, Cond.selects RX9 yX9_edgesNow yX9_edgesNow, Cond.code yX9_edgesNow cX9_edgesNow 3 (some .int), Cond.methodLink RX9 85 yX9_sizeOf, Cond.static yX9_sizeOf, Cond.code yX9_sizeOf cX9_sizeOf 3 (some .int), Cond.methodLink RX9 149 yX9_refinedMany, Cond.instanceMethod yX9_refinedMany, Cond.selects RX9 yX9_refinedMany yX9_refinedMany, Cond.code yX9_refinedMany cX9_refinedMany 2 (some .int), Cond.fieldLink RX9 38 "SplitClassesModel" "aside" "[I", Cond.methodLink RX9 130 yX9_ofItself, Cond.instanceMethod yX9_ofItself]
def wsX9_told_r2 : List Cond := [Cond.selects RX9 yX9_ofItself yX9_ofItself, Cond.code yX9_ofItself cX9_ofItself 3 none, Cond.methodLink RX9 127 yX9_refines, Cond.instanceMethod yX9_refines, Cond.selects RX9 yX9_refines yX9_refines, Cond.code yX9_refines cX9_refines 6 none, Cond.methodLink RX9 120 yX9_tellsApart, Cond.instanceMethod yX9_tellsApart, Cond.selects RX9 yX9_tellsApart yX9_tellsApart, Cond.code yX9_tellsApart cX9_tellsApart 7 none, Cond.fieldLink RX9 32 "SplitClassesModel" "isApart" "[Z", Cond.fieldLink RX9 35 "SplitClassesModel" "isNow" "[Z", Cond.fieldLink RX9 29 "SplitClassesModel" "newRow" "[I", Cond.methodLink RX9 69 yX9_has, Cond.static yX9_has, Cond.code yX9_has cX9_has 2 (some .boolean), Cond.methodLink RX9 112 yX9_isOneMore, Cond.instanceMethod yX9_isOneMore, Cond.selects RX9 yX9_isOneMore yX9_isOneMore, Cond.code yX9_isOneMore cX9_isOneMore 10 (some .boolean), Cond.methodLink RX9 65 yX9_bring, Cond.static yX9_bring, Cond.code yX9_bring cX9_bring 6 none, Cond.methodLink RX9 116 yX9_arranges]
def wsX9_told_r3 : List Cond := [Cond.instanceMethod yX9_arranges, Cond.selects RX9 yX9_arranges yX9_arranges, Cond.code yX9_arranges cX9_arranges 6 none, Cond.methodLink RX9 77 yX9_membersOf, Cond.instanceMethod yX9_membersOf, Cond.selects RX9 yX9_membersOf yX9_membersOf, Cond.code yX9_membersOf cX9_membersOf 6 (some .int), Cond.methodLink RX9 81 yX9_gives, Cond.instanceMethod yX9_gives, Cond.selects RX9 yX9_gives yX9_gives, Cond.code yX9_gives cX9_gives 6 none, Cond.methodLink RX9 109 yX9_setOf, Cond.instanceMethod yX9_setOf, Cond.selects RX9 yX9_setOf yX9_setOf, Cond.code yX9_setOf cX9_setOf 4 (some .int), Cond.methodLink RX9 95 yX9_columnSet, Cond.instanceMethod yX9_columnSet, Cond.selects RX9 yX9_columnSet yX9_columnSet, Cond.code yX9_columnSet cX9_columnSet 4 (some .int), Cond.methodLink RX9 98 yX9_leadsTo, Cond.instanceMethod yX9_leadsTo, Cond.selects RX9 yX9_leadsTo yX9_leadsTo, Cond.code yX9_leadsTo cX9_leadsTo 5 (some .int), Cond.methodLink RX9 102 yX9_atLeast]
def wsX9_told_r4 : List Cond := [Cond.instanceMethod yX9_atLeast, Cond.selects RX9 yX9_atLeast yX9_atLeast, Cond.code yX9_atLeast cX9_atLeast 6 (some .int), Cond.methodLink RX9 124 yX9_splits, Cond.instanceMethod yX9_splits, Cond.selects RX9 yX9_splits yX9_splits, Cond.code yX9_splits cX9_splits 9 none, Cond.methodLink RX9 139 yX9_faultNow, Cond.instanceMethod yX9_faultNow, Cond.selects RX9 yX9_faultNow yX9_faultNow, Cond.code yX9_faultNow cX9_faultNow 7 (some .int), Cond.fieldLink RX9 50 "SplitClassesModel" "searched" "[I", Cond.methodLink RX9 136 yX9_searches, Cond.instanceMethod yX9_searches, Cond.selects RX9 yX9_searches yX9_searches, Cond.code yX9_searches cX9_searches 5 none, Cond.methodLink RX9 133 yX9_leastOf, Cond.instanceMethod yX9_leastOf, Cond.selects RX9 yX9_leastOf yX9_leastOf, Cond.code yX9_leastOf cX9_leastOf 3 (some .int), Cond.methodLink RX9 152 yX9_cliqueNow, Cond.instanceMethod yX9_cliqueNow, Cond.selects RX9 yX9_cliqueNow yX9_cliqueNow, Cond.code yX9_cliqueNow cX9_cliqueNow 5 (some .int)]
def wsX9_told_r5 : List Cond := [Cond.methodLink RX9 155 yX9_wrongNow, Cond.instanceMethod yX9_wrongNow, Cond.selects RX9 yX9_wrongNow yX9_wrongNow, Cond.code yX9_wrongNow cX9_wrongNow 2 (some .int), Cond.fieldLink RX9 23 "SplitClassesModel" "bookItem" "[I", Cond.fieldLink RX9 26 "SplitClassesModel" "bookClass" "[I", Cond.methodLink RX9 89 yX9_isItem, Cond.instanceMethod yX9_isItem, Cond.selects RX9 yX9_isItem yX9_isItem, Cond.code yX9_isItem cX9_isItem 2 (some .boolean), Cond.methodLink RX9 57 yX9_in, Cond.static yX9_in, Cond.code yX9_in cX9_in 3 (some .boolean)]
def wsX9_told : List Cond := .code yX9_told cX9_told 2 (some .int) :: ((wsX9_told_r1 ++ (wsX9_told_r2 ++ (wsX9_told_r3 ++ (wsX9_told_r4 ++ wsX9_told_r5)))) ++ wsX90)
def wsX9_item : List Cond := .code yX9_item cX9_item 3 (some .int) :: ([.constant RX9 93 (-1000000001), .fieldLink RX9 7 "SplitClassesModel" "st" "[I", .constant RX9 94 (-1000000002), .methodLink RX9 89 yX9_isItem, .instanceMethod yX9_isItem, .selects RX9 yX9_isItem yX9_isItem, .initialized RX9, .code yX9_isItem cX9_isItem 2 (some .boolean), .methodLink RX9 57 yX9_in, .static yX9_in, .code yX9_in cX9_in 3 (some .boolean), .methodLink RX9 77 yX9_membersOf, .instanceMethod yX9_membersOf, .selects RX9 yX9_membersOf yX9_membersOf, .code yX9_membersOf cX9_membersOf 6 (some .int), .methodLink RX9 85 yX9_sizeOf, .static yX9_sizeOf, .code yX9_sizeOf cX9_sizeOf 3 (some .int)] ++ wsX90)
def wsX9_classAt : List Cond := .code yX9_classAt cX9_classAt 2 (some .int) :: ([.fieldLink RX9 7 "SplitClassesModel" "st" "[I", .constant RX9 93 (-1000000001), .methodLink RX9 73 yX9_classes, .instanceMethod yX9_classes, .selects RX9 yX9_classes yX9_classes, .initialized RX9, .code yX9_classes cX9_classes 5 (some .int), .methodLink RX9 57 yX9_in, .static yX9_in, .code yX9_in cX9_in 3 (some .boolean), .methodLink RX9 77 yX9_membersOf, .instanceMethod yX9_membersOf, .selects RX9 yX9_membersOf yX9_membersOf, .code yX9_membersOf cX9_membersOf 6 (some .int)] ++ wsX90)
def wsX9_items : List Cond := .code yX9_items cX9_items 3 (some .int) :: ([.constant RX9 94 (-1000000002), .fieldLink RX9 7 "SplitClassesModel" "st" "[I", .methodLink RX9 57 yX9_in, .static yX9_in, .initialized RX9, .code yX9_in cX9_in 3 (some .boolean), .methodLink RX9 161 yX9_notes, .instanceMethod yX9_notes, .selects RX9 yX9_notes yX9_notes, .code yX9_notes cX9_notes 1 none, .fieldLink RX9 61 "SplitClassesModel" "deeds" "I", .fieldLink RX9 13 "SplitClassesModel" "past" "[I", .methodLink RX9 65 yX9_bring, .static yX9_bring, .code yX9_bring cX9_bring 6 none, .methodLink RX9 53 yX9_lays, .instanceMethod yX9_lays, .selects RX9 yX9_lays yX9_lays, .code yX9_lays cX9_lays 4 none] ++ wsX90)
def wsX9_turnsEdge : List Cond := .code yX9_turnsEdge cX9_turnsEdge 3 none :: ([.fieldLink RX9 7 "SplitClassesModel" "st" "[I"] ++ wsX90)
def wsX9_edge_r1 : List Cond := [Cond.constant RX9 93 (-1000000001), Cond.constant RX9 94 (-1000000002), Cond.fieldLink RX9 7 "SplitClassesModel" "st" "[I", Cond.methodLink RX9 89 yX9_isItem, Cond.instanceMethod yX9_isItem, Cond.selects RX9 yX9_isItem yX9_isItem, Cond.initialized RX9, Cond.code yX9_isItem cX9_isItem 2 (some .boolean), Cond.methodLink RX9 57 yX9_in, Cond.static yX9_in, Cond.code yX9_in cX9_in 3 (some .boolean), Cond.methodLink RX9 161 yX9_notes, Cond.instanceMethod yX9_notes, Cond.selects RX9 yX9_notes yX9_notes, Cond.code yX9_notes cX9_notes 1 none, Cond.fieldLink RX9 61 "SplitClassesModel" "deeds" "I", Cond.fieldLink RX9 13 "SplitClassesModel" "past" "[I", Cond.methodLink RX9 65 yX9_bring, Cond.static yX9_bring, Cond.code yX9_bring cX9_bring 6 none, Cond.methodLink RX9 69 yX9_has, Cond.static yX9_has, Cond.code yX9_has cX9_has 2 (some .boolean), Cond.methodLink RX9 164 yX9_turnsEdge]
def wsX9_edge_r2 : List Cond := [Cond.instanceMethod yX9_turnsEdge, Cond.selects RX9 yX9_turnsEdge yX9_turnsEdge, Cond.code yX9_turnsEdge cX9_turnsEdge 3 none, Cond.methodLink RX9 146 yX9_edgesNow, Cond.instanceMethod yX9_edgesNow, Cond.selects RX9 yX9_edgesNow yX9_edgesNow, Cond.code yX9_edgesNow cX9_edgesNow 3 (some .int), Cond.methodLink RX9 85 yX9_sizeOf, Cond.static yX9_sizeOf, Cond.code yX9_sizeOf cX9_sizeOf 3 (some .int)]
def wsX9_edge : List Cond := .code yX9_edge cX9_edge 4 (some .int) :: ((wsX9_edge_r1 ++ wsX9_edge_r2) ++ wsX90)
def wsX9_columns : List Cond := .code yX9_columns cX9_columns 4 (some .int) :: ([.constant RX9 93 (-1000000001), .constant RX9 94 (-1000000002), .fieldLink RX9 7 "SplitClassesModel" "st" "[I", .methodLink RX9 89 yX9_isItem, .instanceMethod yX9_isItem, .selects RX9 yX9_isItem yX9_isItem, .initialized RX9, .code yX9_isItem cX9_isItem 2 (some .boolean), .methodLink RX9 57 yX9_in, .static yX9_in, .code yX9_in cX9_in 3 (some .boolean), .methodLink RX9 161 yX9_notes, .instanceMethod yX9_notes, .selects RX9 yX9_notes yX9_notes, .code yX9_notes cX9_notes 1 none, .fieldLink RX9 61 "SplitClassesModel" "deeds" "I", .fieldLink RX9 13 "SplitClassesModel" "past" "[I", .methodLink RX9 65 yX9_bring, .static yX9_bring, .code yX9_bring cX9_bring 6 none] ++ wsX90)
def wsX9_letters : List Cond := .code yX9_letters cX9_letters 5 (some .int) :: ([.constant RX9 94 (-1000000002), .fieldLink RX9 7 "SplitClassesModel" "st" "[I", .methodLink RX9 57 yX9_in, .static yX9_in, .initialized RX9, .code yX9_in cX9_in 3 (some .boolean), .methodLink RX9 161 yX9_notes, .instanceMethod yX9_notes, .selects RX9 yX9_notes yX9_notes, .code yX9_notes cX9_notes 1 none, .fieldLink RX9 61 "SplitClassesModel" "deeds" "I", .fieldLink RX9 13 "SplitClassesModel" "past" "[I", .methodLink RX9 65 yX9_bring, .static yX9_bring, .code yX9_bring cX9_bring 6 none] ++ wsX90)
def wsX9_goes : List Cond := .code yX9_goes cX9_goes 5 (some .int) :: ([.fieldLink RX9 7 "SplitClassesModel" "st" "[I", .constant RX9 93 (-1000000001), .methodLink RX9 89 yX9_isItem, .instanceMethod yX9_isItem, .selects RX9 yX9_isItem yX9_isItem, .initialized RX9, .code yX9_isItem cX9_isItem 2 (some .boolean), .methodLink RX9 57 yX9_in, .static yX9_in, .code yX9_in cX9_in 3 (some .boolean), .methodLink RX9 161 yX9_notes, .instanceMethod yX9_notes, .selects RX9 yX9_notes yX9_notes, .code yX9_notes cX9_notes 1 none, .fieldLink RX9 61 "SplitClassesModel" "deeds" "I", .fieldLink RX9 13 "SplitClassesModel" "past" "[I", .methodLink RX9 65 yX9_bring, .static yX9_bring, .code yX9_bring cX9_bring 6 none] ++ wsX90)
def wsX9_finals : List Cond := .code yX9_finals cX9_finals 3 (some .int) :: ([.constant RX9 93 (-1000000001), .fieldLink RX9 7 "SplitClassesModel" "st" "[I", .methodLink RX9 168 yX9_isSet, .instanceMethod yX9_isSet, .selects RX9 yX9_isSet yX9_isSet, .initialized RX9, .code yX9_isSet cX9_isSet 2 (some .boolean), .methodLink RX9 57 yX9_in, .static yX9_in, .code yX9_in cX9_in 3 (some .boolean), .methodLink RX9 161 yX9_notes, .instanceMethod yX9_notes, .selects RX9 yX9_notes yX9_notes, .code yX9_notes cX9_notes 1 none, .fieldLink RX9 61 "SplitClassesModel" "deeds" "I", .fieldLink RX9 13 "SplitClassesModel" "past" "[I", .methodLink RX9 65 yX9_bring, .static yX9_bring, .code yX9_bring cX9_bring 6 none] ++ wsX90)
def wsX9_begin : List Cond := .code yX9_begin cX9_begin 3 (some .int) :: ([.fieldLink RX9 7 "SplitClassesModel" "st" "[I", .methodLink RX9 161 yX9_notes, .instanceMethod yX9_notes, .selects RX9 yX9_notes yX9_notes, .initialized RX9, .code yX9_notes cX9_notes 1 none, .fieldLink RX9 61 "SplitClassesModel" "deeds" "I", .fieldLink RX9 13 "SplitClassesModel" "past" "[I", .methodLink RX9 65 yX9_bring, .static yX9_bring, .code yX9_bring cX9_bring 6 none, .methodLink RX9 73 yX9_classes, .instanceMethod yX9_classes, .selects RX9 yX9_classes yX9_classes, .code yX9_classes cX9_classes 5 (some .int)] ++ wsX90)
def wsX9_splitsNow_r1 : List Cond := [Cond.fieldLink RX9 7 "SplitClassesModel" "st" "[I", Cond.methodLink RX9 161 yX9_notes, Cond.instanceMethod yX9_notes, Cond.selects RX9 yX9_notes yX9_notes, Cond.initialized RX9, Cond.code yX9_notes cX9_notes 1 none, Cond.fieldLink RX9 61 "SplitClassesModel" "deeds" "I", Cond.fieldLink RX9 13 "SplitClassesModel" "past" "[I", Cond.methodLink RX9 65 yX9_bring, Cond.static yX9_bring, Cond.code yX9_bring cX9_bring 6 none, Cond.methodLink RX9 85 yX9_sizeOf, Cond.static yX9_sizeOf, Cond.code yX9_sizeOf cX9_sizeOf 3 (some .int), Cond.methodLink RX9 124 yX9_splits, Cond.instanceMethod yX9_splits, Cond.selects RX9 yX9_splits yX9_splits, Cond.code yX9_splits cX9_splits 9 none, Cond.fieldLink RX9 29 "SplitClassesModel" "newRow" "[I", Cond.methodLink RX9 73 yX9_classes, Cond.instanceMethod yX9_classes, Cond.selects RX9 yX9_classes yX9_classes, Cond.code yX9_classes cX9_classes 5 (some .int), Cond.methodLink RX9 77 yX9_membersOf]
def wsX9_splitsNow_r2 : List Cond := [Cond.instanceMethod yX9_membersOf, Cond.selects RX9 yX9_membersOf yX9_membersOf, Cond.code yX9_membersOf cX9_membersOf 6 (some .int), Cond.methodLink RX9 81 yX9_gives, Cond.instanceMethod yX9_gives, Cond.selects RX9 yX9_gives yX9_gives, Cond.code yX9_gives cX9_gives 6 none, Cond.methodLink RX9 69 yX9_has, Cond.static yX9_has, Cond.code yX9_has cX9_has 2 (some .boolean)]
def wsX9_splitsNow : List Cond := .code yX9_splitsNow cX9_splitsNow 2 (some .int) :: ((wsX9_splitsNow_r1 ++ wsX9_splitsNow_r2) ++ wsX90)
def wsX9_split_r1 : List Cond := [Cond.constant RX9 93 (-1000000001), Cond.methodLink RX9 168 yX9_isSet, Cond.instanceMethod yX9_isSet, Cond.selects RX9 yX9_isSet yX9_isSet, Cond.initialized RX9, Cond.code yX9_isSet cX9_isSet 2 (some .boolean), Cond.fieldLink RX9 7 "SplitClassesModel" "st" "[I", Cond.methodLink RX9 57 yX9_in, Cond.static yX9_in, Cond.code yX9_in cX9_in 3 (some .boolean), Cond.methodLink RX9 171 yX9_splitsNow, Cond.instanceMethod yX9_splitsNow, Cond.selects RX9 yX9_splitsNow yX9_splitsNow, Cond.code yX9_splitsNow cX9_splitsNow 2 (some .int), Cond.methodLink RX9 161 yX9_notes, Cond.instanceMethod yX9_notes, Cond.selects RX9 yX9_notes yX9_notes, Cond.code yX9_notes cX9_notes 1 none, Cond.fieldLink RX9 61 "SplitClassesModel" "deeds" "I", Cond.fieldLink RX9 13 "SplitClassesModel" "past" "[I", Cond.methodLink RX9 65 yX9_bring, Cond.static yX9_bring, Cond.code yX9_bring cX9_bring 6 none, Cond.methodLink RX9 85 yX9_sizeOf]
def wsX9_split_r2 : List Cond := [Cond.static yX9_sizeOf, Cond.code yX9_sizeOf cX9_sizeOf 3 (some .int), Cond.methodLink RX9 124 yX9_splits, Cond.instanceMethod yX9_splits, Cond.selects RX9 yX9_splits yX9_splits, Cond.code yX9_splits cX9_splits 9 none, Cond.fieldLink RX9 29 "SplitClassesModel" "newRow" "[I", Cond.methodLink RX9 73 yX9_classes, Cond.instanceMethod yX9_classes, Cond.selects RX9 yX9_classes yX9_classes, Cond.code yX9_classes cX9_classes 5 (some .int), Cond.methodLink RX9 77 yX9_membersOf, Cond.instanceMethod yX9_membersOf, Cond.selects RX9 yX9_membersOf yX9_membersOf, Cond.code yX9_membersOf cX9_membersOf 6 (some .int), Cond.methodLink RX9 81 yX9_gives, Cond.instanceMethod yX9_gives, Cond.selects RX9 yX9_gives yX9_gives, Cond.code yX9_gives cX9_gives 6 none, Cond.methodLink RX9 69 yX9_has, Cond.static yX9_has, Cond.code yX9_has cX9_has 2 (some .boolean)]
def wsX9_split : List Cond := .code yX9_split cX9_split 2 (some .int) :: ((wsX9_split_r1 ++ wsX9_split_r2) ++ wsX90)
def wsX9_by_r1 : List Cond := [Cond.methodLink RX9 105 yX9_askedBy, Cond.instanceMethod yX9_askedBy, Cond.selects RX9 yX9_askedBy yX9_askedBy, Cond.initialized RX9, Cond.code yX9_askedBy cX9_askedBy 5 (some .int), Cond.fieldLink RX9 7 "SplitClassesModel" "st" "[I", Cond.constant RX9 93 (-1000000001), Cond.constant RX9 94 (-1000000002), Cond.methodLink RX9 73 yX9_classes, Cond.instanceMethod yX9_classes, Cond.selects RX9 yX9_classes yX9_classes, Cond.code yX9_classes cX9_classes 5 (some .int), Cond.methodLink RX9 89 yX9_isItem, Cond.instanceMethod yX9_isItem, Cond.selects RX9 yX9_isItem yX9_isItem, Cond.code yX9_isItem cX9_isItem 2 (some .boolean), Cond.methodLink RX9 57 yX9_in, Cond.static yX9_in, Cond.code yX9_in cX9_in 3 (some .boolean), Cond.methodLink RX9 109 yX9_setOf, Cond.instanceMethod yX9_setOf, Cond.selects RX9 yX9_setOf yX9_setOf, Cond.code yX9_setOf cX9_setOf 4 (some .int), Cond.methodLink RX9 95 yX9_columnSet]
def wsX9_by_r2 : List Cond := [Cond.instanceMethod yX9_columnSet, Cond.selects RX9 yX9_columnSet yX9_columnSet, Cond.code yX9_columnSet cX9_columnSet 4 (some .int), Cond.methodLink RX9 69 yX9_has, Cond.static yX9_has, Cond.code yX9_has cX9_has 2 (some .boolean), Cond.methodLink RX9 98 yX9_leadsTo, Cond.instanceMethod yX9_leadsTo, Cond.selects RX9 yX9_leadsTo yX9_leadsTo, Cond.code yX9_leadsTo cX9_leadsTo 5 (some .int), Cond.methodLink RX9 102 yX9_atLeast, Cond.instanceMethod yX9_atLeast, Cond.selects RX9 yX9_atLeast yX9_atLeast, Cond.code yX9_atLeast cX9_atLeast 6 (some .int), Cond.methodLink RX9 77 yX9_membersOf, Cond.instanceMethod yX9_membersOf, Cond.selects RX9 yX9_membersOf yX9_membersOf, Cond.code yX9_membersOf cX9_membersOf 6 (some .int), Cond.methodLink RX9 85 yX9_sizeOf, Cond.static yX9_sizeOf, Cond.code yX9_sizeOf cX9_sizeOf 3 (some .int), Cond.methodLink RX9 171 yX9_splitsNow, Cond.instanceMethod yX9_splitsNow, Cond.selects RX9 yX9_splitsNow yX9_splitsNow]
def wsX9_by_r3 : List Cond := [Cond.code yX9_splitsNow cX9_splitsNow 2 (some .int), Cond.methodLink RX9 161 yX9_notes, Cond.instanceMethod yX9_notes, Cond.selects RX9 yX9_notes yX9_notes, Cond.code yX9_notes cX9_notes 1 none, Cond.fieldLink RX9 61 "SplitClassesModel" "deeds" "I", Cond.fieldLink RX9 13 "SplitClassesModel" "past" "[I", Cond.methodLink RX9 65 yX9_bring, Cond.static yX9_bring, Cond.code yX9_bring cX9_bring 6 none, Cond.methodLink RX9 124 yX9_splits, Cond.instanceMethod yX9_splits, Cond.selects RX9 yX9_splits yX9_splits, Cond.code yX9_splits cX9_splits 9 none, Cond.fieldLink RX9 29 "SplitClassesModel" "newRow" "[I", Cond.methodLink RX9 81 yX9_gives, Cond.instanceMethod yX9_gives, Cond.selects RX9 yX9_gives yX9_gives, Cond.code yX9_gives cX9_gives 6 none]
def wsX9_by : List Cond := .code yX9_by cX9_by 5 (some .int) :: ((wsX9_by_r1 ++ (wsX9_by_r2 ++ wsX9_by_r3)) ++ wsX90)
def wsX9_refine_r1 : List Cond := [Cond.constant RX9 94 (-1000000002), Cond.fieldLink RX9 7 "SplitClassesModel" "st" "[I", Cond.methodLink RX9 57 yX9_in, Cond.static yX9_in, Cond.initialized RX9, Cond.code yX9_in cX9_in 3 (some .boolean), Cond.methodLink RX9 161 yX9_notes, Cond.instanceMethod yX9_notes, Cond.selects RX9 yX9_notes yX9_notes, Cond.code yX9_notes cX9_notes 1 none, Cond.fieldLink RX9 61 "SplitClassesModel" "deeds" "I", Cond.fieldLink RX9 13 "SplitClassesModel" "past" "[I", Cond.methodLink RX9 65 yX9_bring, Cond.static yX9_bring, Cond.code yX9_bring cX9_bring 6 none, Cond.methodLink RX9 127 yX9_refines, Cond.instanceMethod yX9_refines, Cond.selects RX9 yX9_refines yX9_refines, Cond.code yX9_refines cX9_refines 6 none, Cond.methodLink RX9 120 yX9_tellsApart, Cond.instanceMethod yX9_tellsApart, Cond.selects RX9 yX9_tellsApart yX9_tellsApart, Cond.code yX9_tellsApart cX9_tellsApart 7 none, Cond.fieldLink RX9 32 "SplitClassesModel" "isApart" "[Z"]
def wsX9_refine_r2 : List Cond := [Cond.fieldLink RX9 35 "SplitClassesModel" "isNow" "[Z", Cond.fieldLink RX9 29 "SplitClassesModel" "newRow" "[I", Cond.methodLink RX9 69 yX9_has, Cond.static yX9_has, Cond.code yX9_has cX9_has 2 (some .boolean), Cond.methodLink RX9 112 yX9_isOneMore, Cond.instanceMethod yX9_isOneMore, Cond.selects RX9 yX9_isOneMore yX9_isOneMore, Cond.code yX9_isOneMore cX9_isOneMore 10 (some .boolean), Cond.methodLink RX9 85 yX9_sizeOf, Cond.static yX9_sizeOf, Cond.code yX9_sizeOf cX9_sizeOf 3 (some .int), Cond.methodLink RX9 116 yX9_arranges, Cond.instanceMethod yX9_arranges, Cond.selects RX9 yX9_arranges yX9_arranges, Cond.code yX9_arranges cX9_arranges 6 none, Cond.methodLink RX9 77 yX9_membersOf, Cond.instanceMethod yX9_membersOf, Cond.selects RX9 yX9_membersOf yX9_membersOf, Cond.code yX9_membersOf cX9_membersOf 6 (some .int), Cond.methodLink RX9 81 yX9_gives, Cond.instanceMethod yX9_gives, Cond.selects RX9 yX9_gives yX9_gives, Cond.code yX9_gives cX9_gives 6 none]
def wsX9_refine_r3 : List Cond := [Cond.methodLink RX9 109 yX9_setOf, Cond.instanceMethod yX9_setOf, Cond.selects RX9 yX9_setOf yX9_setOf, Cond.code yX9_setOf cX9_setOf 4 (some .int), Cond.methodLink RX9 95 yX9_columnSet, Cond.instanceMethod yX9_columnSet, Cond.selects RX9 yX9_columnSet yX9_columnSet, Cond.code yX9_columnSet cX9_columnSet 4 (some .int), Cond.methodLink RX9 98 yX9_leadsTo, Cond.instanceMethod yX9_leadsTo, Cond.selects RX9 yX9_leadsTo yX9_leadsTo, Cond.code yX9_leadsTo cX9_leadsTo 5 (some .int), Cond.methodLink RX9 102 yX9_atLeast, Cond.instanceMethod yX9_atLeast, Cond.selects RX9 yX9_atLeast yX9_atLeast, Cond.code yX9_atLeast cX9_atLeast 6 (some .int), Cond.methodLink RX9 124 yX9_splits, Cond.instanceMethod yX9_splits, Cond.selects RX9 yX9_splits yX9_splits, Cond.code yX9_splits cX9_splits 9 none, Cond.methodLink RX9 73 yX9_classes, Cond.instanceMethod yX9_classes, Cond.selects RX9 yX9_classes yX9_classes, Cond.code yX9_classes cX9_classes 5 (some .int)]
def wsX9_refine : List Cond := .code yX9_refine cX9_refine 2 (some .int) :: ((wsX9_refine_r1 ++ (wsX9_refine_r2 ++ wsX9_refine_r3)) ++ wsX90)
def wsX9_join : List Cond := .code yX9_join cX9_join 3 (some .int) :: ([.fieldLink RX9 7 "SplitClassesModel" "st" "[I", .constant RX9 93 (-1000000001), .methodLink RX9 73 yX9_classes, .instanceMethod yX9_classes, .selects RX9 yX9_classes yX9_classes, .initialized RX9, .code yX9_classes cX9_classes 5 (some .int), .methodLink RX9 57 yX9_in, .static yX9_in, .code yX9_in cX9_in 3 (some .boolean), .methodLink RX9 161 yX9_notes, .instanceMethod yX9_notes, .selects RX9 yX9_notes yX9_notes, .code yX9_notes cX9_notes 1 none, .fieldLink RX9 61 "SplitClassesModel" "deeds" "I", .fieldLink RX9 13 "SplitClassesModel" "past" "[I", .methodLink RX9 65 yX9_bring, .static yX9_bring, .code yX9_bring cX9_bring 6 none] ++ wsX90)
def wsX9_arrange_r1 : List Cond := [Cond.fieldLink RX9 7 "SplitClassesModel" "st" "[I", Cond.fieldLink RX9 38 "SplitClassesModel" "aside" "[I", Cond.methodLink RX9 161 yX9_notes, Cond.instanceMethod yX9_notes, Cond.selects RX9 yX9_notes yX9_notes, Cond.initialized RX9, Cond.code yX9_notes cX9_notes 1 none, Cond.fieldLink RX9 61 "SplitClassesModel" "deeds" "I", Cond.fieldLink RX9 13 "SplitClassesModel" "past" "[I", Cond.methodLink RX9 65 yX9_bring, Cond.static yX9_bring, Cond.code yX9_bring cX9_bring 6 none, Cond.methodLink RX9 116 yX9_arranges, Cond.instanceMethod yX9_arranges, Cond.selects RX9 yX9_arranges yX9_arranges, Cond.code yX9_arranges cX9_arranges 6 none, Cond.fieldLink RX9 29 "SplitClassesModel" "newRow" "[I", Cond.methodLink RX9 77 yX9_membersOf, Cond.instanceMethod yX9_membersOf, Cond.selects RX9 yX9_membersOf yX9_membersOf, Cond.code yX9_membersOf cX9_membersOf 6 (some .int), Cond.methodLink RX9 81 yX9_gives, Cond.instanceMethod yX9_gives, Cond.selects RX9 yX9_gives yX9_gives]
def wsX9_arrange_r2 : List Cond := [Cond.code yX9_gives cX9_gives 6 none, Cond.methodLink RX9 69 yX9_has, Cond.static yX9_has, Cond.code yX9_has cX9_has 2 (some .boolean), Cond.methodLink RX9 73 yX9_classes, Cond.instanceMethod yX9_classes, Cond.selects RX9 yX9_classes yX9_classes, Cond.code yX9_classes cX9_classes 5 (some .int), Cond.methodLink RX9 133 yX9_leastOf, Cond.instanceMethod yX9_leastOf, Cond.selects RX9 yX9_leastOf yX9_leastOf, Cond.code yX9_leastOf cX9_leastOf 3 (some .int)]
def wsX9_arrange : List Cond := .code yX9_arrange cX9_arrange 4 (some .int) :: ((wsX9_arrange_r1 ++ wsX9_arrange_r2) ++ wsX90)
def wsX9_draws : List Cond := .code yX9_draws cX9_draws 2 (some .int) :: ([.fieldLink RX9 158 "SplitClassesModel" "seedNow" "I", .constantLong RX9 174 (1103515245), .constantLong RX9 176 (12345), .constantLong RX9 178 (2147483648), .constant RX9 180 (65536)] ++ wsX90)
def wsX9_driftsOnce : List Cond := .code yX9_driftsOnce cX9_driftsOnce 4 none :: ([.fieldLink RX9 7 "SplitClassesModel" "st" "[I", .methodLink RX9 161 yX9_notes, .instanceMethod yX9_notes, .selects RX9 yX9_notes yX9_notes, .initialized RX9, .code yX9_notes cX9_notes 1 none, .fieldLink RX9 61 "SplitClassesModel" "deeds" "I", .fieldLink RX9 13 "SplitClassesModel" "past" "[I", .methodLink RX9 65 yX9_bring, .static yX9_bring, .code yX9_bring cX9_bring 6 none, .methodLink RX9 181 yX9_draws, .instanceMethod yX9_draws, .selects RX9 yX9_draws yX9_draws, .code yX9_draws cX9_draws 2 (some .int), .fieldLink RX9 158 "SplitClassesModel" "seedNow" "I", .constantLong RX9 174 (1103515245), .constantLong RX9 176 (12345), .constantLong RX9 178 (2147483648), .constant RX9 180 (65536), .methodLink RX9 164 yX9_turnsEdge, .instanceMethod yX9_turnsEdge, .selects RX9 yX9_turnsEdge yX9_turnsEdge, .code yX9_turnsEdge cX9_turnsEdge 3 none] ++ wsX90)
def wsX9_drift_r1 : List Cond := [Cond.constant RX9 94 (-1000000002), Cond.methodLink RX9 57 yX9_in, Cond.static yX9_in, Cond.initialized RX9, Cond.code yX9_in cX9_in 3 (some .boolean), Cond.methodLink RX9 184 yX9_driftsOnce, Cond.instanceMethod yX9_driftsOnce, Cond.selects RX9 yX9_driftsOnce yX9_driftsOnce, Cond.code yX9_driftsOnce cX9_driftsOnce 4 none, Cond.fieldLink RX9 7 "SplitClassesModel" "st" "[I", Cond.methodLink RX9 161 yX9_notes, Cond.instanceMethod yX9_notes, Cond.selects RX9 yX9_notes yX9_notes, Cond.code yX9_notes cX9_notes 1 none, Cond.fieldLink RX9 61 "SplitClassesModel" "deeds" "I", Cond.fieldLink RX9 13 "SplitClassesModel" "past" "[I", Cond.methodLink RX9 65 yX9_bring, Cond.static yX9_bring, Cond.code yX9_bring cX9_bring 6 none, Cond.methodLink RX9 181 yX9_draws, Cond.instanceMethod yX9_draws, Cond.selects RX9 yX9_draws yX9_draws, Cond.code yX9_draws cX9_draws 2 (some .int), Cond.fieldLink RX9 158 "SplitClassesModel" "seedNow" "I"]
def wsX9_drift_r2 : List Cond := [Cond.constantLong RX9 174 (1103515245), Cond.constantLong RX9 176 (12345), Cond.constantLong RX9 178 (2147483648), Cond.constant RX9 180 (65536), Cond.methodLink RX9 164 yX9_turnsEdge, Cond.instanceMethod yX9_turnsEdge, Cond.selects RX9 yX9_turnsEdge yX9_turnsEdge, Cond.code yX9_turnsEdge cX9_turnsEdge 3 none, Cond.methodLink RX9 146 yX9_edgesNow, Cond.instanceMethod yX9_edgesNow, Cond.selects RX9 yX9_edgesNow yX9_edgesNow, Cond.code yX9_edgesNow cX9_edgesNow 3 (some .int), Cond.methodLink RX9 85 yX9_sizeOf, Cond.static yX9_sizeOf, Cond.code yX9_sizeOf cX9_sizeOf 3 (some .int)]
def wsX9_drift : List Cond := .code yX9_drift cX9_drift 3 (some .int) :: ((wsX9_drift_r1 ++ wsX9_drift_r2) ++ wsX90)
def wsX9_undo : List Cond := .code yX9_undo cX9_undo 2 (some .int) :: ([.constant RX9 94 (-1000000002), .fieldLink RX9 61 "SplitClassesModel" "deeds" "I", .constant RX9 187 (-1000000003), .fieldLink RX9 13 "SplitClassesModel" "past" "[I", .fieldLink RX9 7 "SplitClassesModel" "st" "[I", .methodLink RX9 57 yX9_in, .static yX9_in, .initialized RX9, .code yX9_in cX9_in 3 (some .boolean), .methodLink RX9 65 yX9_bring, .static yX9_bring, .code yX9_bring cX9_bring 6 none] ++ wsX90)
def wsX9_write : List Cond := .code yX9_write cX9_write 3 (some .int) :: ([.constant RX9 93 (-1000000001), .fieldLink RX9 143 "SplitClassesModel" "entries" "I", .constant RX9 188 (-1000000004), .fieldLink RX9 23 "SplitClassesModel" "bookItem" "[I", .fieldLink RX9 26 "SplitClassesModel" "bookClass" "[I", .methodLink RX9 89 yX9_isItem, .instanceMethod yX9_isItem, .selects RX9 yX9_isItem yX9_isItem, .initialized RX9, .code yX9_isItem cX9_isItem 2 (some .boolean), .fieldLink RX9 7 "SplitClassesModel" "st" "[I", .methodLink RX9 57 yX9_in, .static yX9_in, .code yX9_in cX9_in 3 (some .boolean)] ++ wsX90)
def wsX9_tear : List Cond := .code yX9_tear cX9_tear 2 (some .int) :: ([.fieldLink RX9 143 "SplitClassesModel" "entries" "I"] ++ wsX90)
def wsX9_seed : List Cond := .code yX9_seed cX9_seed 3 (some .int) :: ([.constant RX9 94 (-1000000002), .fieldLink RX9 158 "SplitClassesModel" "seedNow" "I"] ++ wsX90)
def wsX9_keep : List Cond := .code yX9_keep cX9_keep 2 (some .int) :: ([.constant RX9 93 (-1000000001), .fieldLink RX9 19 "SplitClassesModel" "isKept" "[Z", .fieldLink RX9 7 "SplitClassesModel" "st" "[I", .fieldLink RX9 16 "SplitClassesModel" "images" "[I", .fieldLink RX9 158 "SplitClassesModel" "seedNow" "I", .fieldLink RX9 61 "SplitClassesModel" "deeds" "I", .methodLink RX9 57 yX9_in, .static yX9_in, .initialized RX9, .code yX9_in cX9_in 3 (some .boolean), .methodLink RX9 65 yX9_bring, .static yX9_bring, .code yX9_bring cX9_bring 6 none] ++ wsX90)
def wsX9_goBack : List Cond := .code yX9_goBack cX9_goBack 2 (some .int) :: ([.constant RX9 93 (-1000000001), .fieldLink RX9 19 "SplitClassesModel" "isKept" "[Z", .constant RX9 187 (-1000000003), .fieldLink RX9 16 "SplitClassesModel" "images" "[I", .fieldLink RX9 7 "SplitClassesModel" "st" "[I", .fieldLink RX9 158 "SplitClassesModel" "seedNow" "I", .fieldLink RX9 61 "SplitClassesModel" "deeds" "I", .methodLink RX9 57 yX9_in, .static yX9_in, .initialized RX9, .code yX9_in cX9_in 3 (some .boolean), .methodLink RX9 65 yX9_bring, .static yX9_bring, .code yX9_bring cX9_bring 6 none] ++ wsX90)
def wsJ9_max_7cf53 : List Cond := .code yJ9_max_7cf53 cJ9_max_7cf53 2 (some .int) :: ([])
def wsJ9_min_7cf53 : List Cond := .code yJ9_min_7cf53 cJ9_min_7cf53 2 (some .int) :: ([])
abbrev vwCl : List vw_C := [(RX0, TX0, 3), (RX1, TX1, 1), (RX2, TX2, 3), (RX3, TX3, 3), (RX4, TX4, 1), (RX5, TX5, 2), (RX6, TX6, 8), (RX7, TX7, 3), (RX8, TX8, 8), (RX9, TX9, 17)]
end
section
theorem dX0_init_0 : decode cX0_init 0 = .ok (.aload_n 0, 1) := by decide +kernel
theorem dX0_init_1 : decode cX0_init 1 = .ok (.invokespecial 3, 3) := by decide +kernel
theorem dX0_init_4 : decode cX0_init 4 = .ok (.aload_n 0, 1) := by decide +kernel
theorem dX0_init_5 : decode cX0_init 5 = .ok (.bipush 20, 2) := by decide +kernel
theorem dX0_init_7 : decode cX0_init 7 = .ok (.newarray .int, 2) := by decide +kernel
theorem dX0_init_9 : decode cX0_init 9 = .ok (.putfield 9, 3) := by decide +kernel
theorem dX0_init_12 : decode cX0_init 12 = .ok (.aload_n 0, 1) := by decide +kernel
theorem dX0_init_13 : decode cX0_init 13 = .ok (.bipush 20, 2) := by decide +kernel
theorem dX0_init_15 : decode cX0_init 15 = .ok (.newarray .int, 2) := by decide +kernel
theorem dX0_init_17 : decode cX0_init 17 = .ok (.putfield 15, 3) := by decide +kernel
theorem dX0_init_20 : decode cX0_init 20 = .ok (.aload_n 0, 1) := by decide +kernel
theorem dX0_init_21 : decode cX0_init 21 = .ok (.iconst 0, 1) := by decide +kernel
theorem dX0_init_22 : decode cX0_init 22 = .ok (.putfield 18, 3) := by decide +kernel
theorem dX0_init_25 : decode cX0_init 25 = .ok (.return_, 1) := by decide +kernel
theorem dX0_append_0 : decode cX0_append 0 = .ok (.aload_n 0, 1) := by decide +kernel
theorem dX0_append_1 : decode cX0_append 1 = .ok (.getfield 18, 3) := by decide +kernel
theorem dX0_append_4 : decode cX0_append 4 = .ok (.bipush 20, 2) := by decide +kernel
theorem dX0_append_6 : decode cX0_append 6 = .ok (.if_icmp .ge 33, 3) := by decide +kernel
theorem dX0_append_9 : decode cX0_append 9 = .ok (.aload_n 0, 1) := by decide +kernel
theorem dX0_append_10 : decode cX0_append 10 = .ok (.getfield 9, 3) := by decide +kernel
theorem dX0_append_13 : decode cX0_append 13 = .ok (.aload_n 0, 1) := by decide +kernel
theorem dX0_append_14 : decode cX0_append 14 = .ok (.getfield 18, 3) := by decide +kernel
theorem dX0_append_17 : decode cX0_append 17 = .ok (.iload_n 1, 1) := by decide +kernel
theorem dX0_append_18 : decode cX0_append 18 = .ok (.iastore, 1) := by decide +kernel
theorem dX0_append_19 : decode cX0_append 19 = .ok (.aload_n 0, 1) := by decide +kernel
theorem dX0_append_20 : decode cX0_append 20 = .ok (.getfield 15, 3) := by decide +kernel
theorem dX0_append_23 : decode cX0_append 23 = .ok (.aload_n 0, 1) := by decide +kernel
theorem dX0_append_24 : decode cX0_append 24 = .ok (.getfield 18, 3) := by decide +kernel
theorem dX0_append_27 : decode cX0_append 27 = .ok (.iload_n 2, 1) := by decide +kernel
theorem dX0_append_28 : decode cX0_append 28 = .ok (.iastore, 1) := by decide +kernel
theorem dX0_append_29 : decode cX0_append 29 = .ok (.aload_n 0, 1) := by decide +kernel
theorem dX0_append_30 : decode cX0_append 30 = .ok (.dup, 1) := by decide +kernel
theorem dX0_append_31 : decode cX0_append 31 = .ok (.getfield 18, 3) := by decide +kernel
theorem dX0_append_34 : decode cX0_append 34 = .ok (.iconst 1, 1) := by decide +kernel
theorem dX0_append_35 : decode cX0_append 35 = .ok (.iadd, 1) := by decide +kernel
theorem dX0_append_36 : decode cX0_append 36 = .ok (.putfield 18, 3) := by decide +kernel
theorem dX0_append_39 : decode cX0_append 39 = .ok (.return_, 1) := by decide +kernel
set_option maxRecDepth 20000 in
theorem ggX0_firstWrong_X6_hasItem : GoodIn wsX0_firstWrong wsX6_hasItem := goodIn_r _ [9, 10, 21, 22, 23, 24, 25, 26, 27, 28] (by decide +kernel) (by decide +kernel)
set_option maxRecDepth 20000 in
theorem gX0_firstWrong_X6_hasItem : GoodIn wsX0_firstWrong (wsV RX0 22 RX6 yX6_hasItem wsX6_hasItem) := goodIn_app (goodIn_of _ (by decide +kernel)) ggX0_firstWrong_X6_hasItem
set_option maxRecDepth 20000 in
theorem ggX0_firstWrong_X5_placeOf : GoodIn wsX0_firstWrong wsX5_placeOf := goodIn_r _ [15, 16, 17, 29, 30] (by decide +kernel) (by decide +kernel)
set_option maxRecDepth 20000 in
theorem gX0_firstWrong_X5_placeOf : GoodIn wsX0_firstWrong (wsV RX0 32 RX5 yX5_placeOf wsX5_placeOf) := goodIn_app (goodIn_of _ (by decide +kernel)) ggX0_firstWrong_X5_placeOf
theorem dX0_firstWrong_0 : decode cX0_firstWrong 0 = .ok (.iconst 0, 1) := by decide +kernel
theorem dX0_firstWrong_1 : decode cX0_firstWrong 1 = .ok (.istore_n 2, 1) := by decide +kernel
theorem dX0_firstWrong_2 : decode cX0_firstWrong 2 = .ok (.iload_n 2, 1) := by decide +kernel
theorem dX0_firstWrong_3 : decode cX0_firstWrong 3 = .ok (.aload_n 0, 1) := by decide +kernel
theorem dX0_firstWrong_4 : decode cX0_firstWrong 4 = .ok (.getfield 18, 3) := by decide +kernel
theorem dX0_firstWrong_7 : decode cX0_firstWrong 7 = .ok (.if_icmp .ge 46, 3) := by decide +kernel
theorem dX0_firstWrong_10 : decode cX0_firstWrong 10 = .ok (.aload_n 1, 1) := by decide +kernel
theorem dX0_firstWrong_11 : decode cX0_firstWrong 11 = .ok (.aload_n 0, 1) := by decide +kernel
theorem dX0_firstWrong_12 : decode cX0_firstWrong 12 = .ok (.getfield 9, 3) := by decide +kernel
theorem dX0_firstWrong_15 : decode cX0_firstWrong 15 = .ok (.iload_n 2, 1) := by decide +kernel
theorem dX0_firstWrong_16 : decode cX0_firstWrong 16 = .ok (.iaload, 1) := by decide +kernel
theorem dX0_firstWrong_17 : decode cX0_firstWrong 17 = .ok (.invokevirtual 22, 3) := by decide +kernel
theorem dX0_firstWrong_20 : decode cX0_firstWrong 20 = .ok (.ifCond .eq 25, 3) := by decide +kernel
theorem dX0_firstWrong_23 : decode cX0_firstWrong 23 = .ok (.aload_n 1, 1) := by decide +kernel
theorem dX0_firstWrong_24 : decode cX0_firstWrong 24 = .ok (.getfield 28, 3) := by decide +kernel
theorem dX0_firstWrong_27 : decode cX0_firstWrong 27 = .ok (.aload_n 0, 1) := by decide +kernel
theorem dX0_firstWrong_28 : decode cX0_firstWrong 28 = .ok (.getfield 9, 3) := by decide +kernel
theorem dX0_firstWrong_31 : decode cX0_firstWrong 31 = .ok (.iload_n 2, 1) := by decide +kernel
theorem dX0_firstWrong_32 : decode cX0_firstWrong 32 = .ok (.iaload, 1) := by decide +kernel
theorem dX0_firstWrong_33 : decode cX0_firstWrong 33 = .ok (.invokevirtual 32, 3) := by decide +kernel
theorem dX0_firstWrong_36 : decode cX0_firstWrong 36 = .ok (.aload_n 0, 1) := by decide +kernel
theorem dX0_firstWrong_37 : decode cX0_firstWrong 37 = .ok (.getfield 15, 3) := by decide +kernel
theorem dX0_firstWrong_40 : decode cX0_firstWrong 40 = .ok (.iload_n 2, 1) := by decide +kernel
theorem dX0_firstWrong_41 : decode cX0_firstWrong 41 = .ok (.iaload, 1) := by decide +kernel
theorem dX0_firstWrong_42 : decode cX0_firstWrong 42 = .ok (.if_icmp .eq 5, 3) := by decide +kernel
theorem dX0_firstWrong_45 : decode cX0_firstWrong 45 = .ok (.iload_n 2, 1) := by decide +kernel
theorem dX0_firstWrong_46 : decode cX0_firstWrong 46 = .ok (.ireturn, 1) := by decide +kernel
theorem dX0_firstWrong_47 : decode cX0_firstWrong 47 = .ok (.iinc 2 1, 3) := by decide +kernel
theorem dX0_firstWrong_50 : decode cX0_firstWrong 50 = .ok (.goto (-48), 3) := by decide +kernel
theorem dX0_firstWrong_53 : decode cX0_firstWrong 53 = .ok (.iconst (-1), 1) := by decide +kernel
theorem dX0_firstWrong_54 : decode cX0_firstWrong 54 = .ok (.ireturn, 1) := by decide +kernel
theorem dX1_init_0 : decode cX1_init 0 = .ok (.aload_n 0, 1) := by decide +kernel
theorem dX1_init_1 : decode cX1_init 1 = .ok (.invokespecial 3, 3) := by decide +kernel
theorem dX1_init_4 : decode cX1_init 4 = .ok (.aload_n 0, 1) := by decide +kernel
theorem dX1_init_5 : decode cX1_init 5 = .ok (.iconst 0, 1) := by decide +kernel
theorem dX1_init_6 : decode cX1_init 6 = .ok (.putfield 9, 3) := by decide +kernel
theorem dX1_init_9 : decode cX1_init 9 = .ok (.return_, 1) := by decide +kernel
theorem dX1_draw_0 : decode cX1_draw 0 = .ok (.aload_n 0, 1) := by decide +kernel
theorem dX1_draw_1 : decode cX1_draw 1 = .ok (.aload_n 0, 1) := by decide +kernel
theorem dX1_draw_2 : decode cX1_draw 2 = .ok (.getfield 9, 3) := by decide +kernel
theorem dX1_draw_5 : decode cX1_draw 5 = .ok (.i2l, 1) := by decide +kernel
theorem dX1_draw_6 : decode cX1_draw 6 = .ok (.ldc2_w 15, 3) := by decide +kernel
theorem dX1_draw_9 : decode cX1_draw 9 = .ok (.lmul, 1) := by decide +kernel
theorem dX1_draw_10 : decode cX1_draw 10 = .ok (.ldc2_w 17, 3) := by decide +kernel
theorem dX1_draw_13 : decode cX1_draw 13 = .ok (.ladd, 1) := by decide +kernel
theorem dX1_draw_14 : decode cX1_draw 14 = .ok (.ldc2_w 19, 3) := by decide +kernel
theorem dX1_draw_17 : decode cX1_draw 17 = .ok (.land, 1) := by decide +kernel
theorem dX1_draw_18 : decode cX1_draw 18 = .ok (.l2i, 1) := by decide +kernel
theorem dX1_draw_19 : decode cX1_draw 19 = .ok (.putfield 9, 3) := by decide +kernel
theorem dX1_draw_22 : decode cX1_draw 22 = .ok (.iload_n 1, 1) := by decide +kernel
theorem dX1_draw_23 : decode cX1_draw 23 = .ok (.ifCond .le 15, 3) := by decide +kernel
theorem dX1_draw_26 : decode cX1_draw 26 = .ok (.aload_n 0, 1) := by decide +kernel
theorem dX1_draw_27 : decode cX1_draw 27 = .ok (.getfield 9, 3) := by decide +kernel
theorem dX1_draw_30 : decode cX1_draw 30 = .ok (.ldc 21, 2) := by decide +kernel
theorem dX1_draw_32 : decode cX1_draw 32 = .ok (.idiv, 1) := by decide +kernel
theorem dX1_draw_33 : decode cX1_draw 33 = .ok (.iload_n 1, 1) := by decide +kernel
theorem dX1_draw_34 : decode cX1_draw 34 = .ok (.irem, 1) := by decide +kernel
theorem dX1_draw_35 : decode cX1_draw 35 = .ok (.goto 4, 3) := by decide +kernel
theorem dX1_draw_38 : decode cX1_draw 38 = .ok (.iconst 0, 1) := by decide +kernel
theorem dX1_draw_39 : decode cX1_draw 39 = .ok (.ireturn, 1) := by decide +kernel
set_option maxRecDepth 20000 in
theorem ggX1_change_X1_draw : GoodIn wsX1_change wsX1_draw := goodIn_r _ [7, 8, 9, 10, 11, 12, 57] (by decide +kernel) (by decide +kernel)
set_option maxRecDepth 20000 in
theorem gX1_change_X1_draw : GoodIn wsX1_change (wsV RX1 22 RX1 yX1_draw wsX1_draw) := goodIn_app (goodIn_of _ (by decide +kernel)) ggX1_change_X1_draw
set_option maxRecDepth 20000 in
theorem ggX1_change_X1_changeEdge : GoodIn wsX1_change wsX1_changeEdge := goodIn_r _ [16, 1, 3, 4, 5, 6, 7, 8, 9, 10, 11, 12, 17, 18, 19, 20, 21, 22, 23, 24, 25, 26, 27, 49, 50, 51, 52, 53, 54, 55, 56, 57] (by decide +kernel) (by decide +kernel)
set_option maxRecDepth 20000 in
theorem gX1_change_X1_changeEdge : GoodIn wsX1_change (wsV RX1 26 RX1 yX1_changeEdge wsX1_changeEdge) := goodIn_app (goodIn_of _ (by decide +kernel)) ggX1_change_X1_changeEdge
set_option maxRecDepth 20000 in
theorem ggX1_change_X1_changeColumns : GoodIn wsX1_change wsX1_changeColumns := goodIn_r _ [31, 1, 32, 3, 4, 5, 6, 7, 8, 9, 10, 11, 12, 33, 24, 25, 20, 26, 27, 49, 50, 51, 52, 53, 54, 55, 56, 57] (by decide +kernel) (by decide +kernel)
set_option maxRecDepth 20000 in
theorem gX1_change_X1_changeColumns : GoodIn wsX1_change (wsV RX1 30 RX1 yX1_changeColumns wsX1_changeColumns) := goodIn_app (goodIn_of _ (by decide +kernel)) ggX1_change_X1_changeColumns
set_option maxRecDepth 20000 in
theorem ggX1_change_X1_changeMachine : GoodIn wsX1_change wsX1_changeMachine := goodIn_r _ [37, 1, 38, 3, 4, 5, 6, 7, 8, 9, 10, 11, 12, 39, 40, 41, 20, 42, 43, 23, 24, 25, 26, 27, 44, 45, 46, 47, 48, 49, 50, 51, 52, 53, 54, 55, 56, 57] (by decide +kernel) (by decide +kernel)
set_option maxRecDepth 20000 in
theorem gX1_change_X1_changeMachine : GoodIn wsX1_change (wsV RX1 33 RX1 yX1_changeMachine wsX1_changeMachine) := goodIn_app (goodIn_of _ (by decide +kernel)) ggX1_change_X1_changeMachine
theorem dX1_change_0 : decode cX1_change 0 = .ok (.aload_n 0, 1) := by decide +kernel
theorem dX1_change_1 : decode cX1_change 1 = .ok (.iconst 4, 1) := by decide +kernel
theorem dX1_change_2 : decode cX1_change 2 = .ok (.invokevirtual 22, 3) := by decide +kernel
theorem dX1_change_5 : decode cX1_change 5 = .ok (.tableswitch 51 0 2 #[27, 35, 43], 27) := by decide +kernel
theorem dX1_change_32 : decode cX1_change 32 = .ok (.aload_n 0, 1) := by decide +kernel
theorem dX1_change_33 : decode cX1_change 33 = .ok (.aload_n 1, 1) := by decide +kernel
theorem dX1_change_34 : decode cX1_change 34 = .ok (.invokevirtual 26, 3) := by decide +kernel
theorem dX1_change_37 : decode cX1_change 37 = .ok (.goto 33, 3) := by decide +kernel
theorem dX1_change_40 : decode cX1_change 40 = .ok (.aload_n 0, 1) := by decide +kernel
theorem dX1_change_41 : decode cX1_change 41 = .ok (.aload_n 1, 1) := by decide +kernel
theorem dX1_change_42 : decode cX1_change 42 = .ok (.invokevirtual 30, 3) := by decide +kernel
theorem dX1_change_45 : decode cX1_change 45 = .ok (.goto 25, 3) := by decide +kernel
theorem dX1_change_48 : decode cX1_change 48 = .ok (.aload_n 0, 1) := by decide +kernel
theorem dX1_change_49 : decode cX1_change 49 = .ok (.aload_n 1, 1) := by decide +kernel
theorem dX1_change_50 : decode cX1_change 50 = .ok (.invokevirtual 33, 3) := by decide +kernel
theorem dX1_change_53 : decode cX1_change 53 = .ok (.goto 17, 3) := by decide +kernel
theorem dX1_change_56 : decode cX1_change 56 = .ok (.aload_n 1, 1) := by decide +kernel
theorem dX1_change_57 : decode cX1_change 57 = .ok (.aload_n 0, 1) := by decide +kernel
theorem dX1_change_58 : decode cX1_change 58 = .ok (.iconst 1, 1) := by decide +kernel
theorem dX1_change_59 : decode cX1_change 59 = .ok (.aload_n 1, 1) := by decide +kernel
theorem dX1_change_60 : decode cX1_change 60 = .ok (.getfield 36, 3) := by decide +kernel
theorem dX1_change_63 : decode cX1_change 63 = .ok (.ishl, 1) := by decide +kernel
theorem dX1_change_64 : decode cX1_change 64 = .ok (.invokevirtual 22, 3) := by decide +kernel
theorem dX1_change_67 : decode cX1_change 67 = .ok (.putfield 41, 3) := by decide +kernel
theorem dX1_change_70 : decode cX1_change 70 = .ok (.return_, 1) := by decide +kernel
set_option maxRecDepth 20000 in
theorem ggX1_changeEdge_X1_draw : GoodIn wsX1_changeEdge wsX1_draw := goodIn_r _ [6, 7, 8, 9, 10, 11, 31] (by decide +kernel) (by decide +kernel)
set_option maxRecDepth 20000 in
theorem gX1_changeEdge_X1_draw : GoodIn wsX1_changeEdge (wsV RX1 22 RX1 yX1_draw wsX1_draw) := goodIn_app (goodIn_of _ (by decide +kernel)) ggX1_changeEdge_X1_draw
set_option maxRecDepth 20000 in
theorem ggX1_changeEdge_X6_flipEdge : GoodIn wsX1_changeEdge wsX6_flipEdge := goodIn_r _ [16, 17, 18, 19, 20, 15, 21, 22, 23, 24, 25, 26, 27, 28, 29, 30] (by decide +kernel) (by decide +kernel)
set_option maxRecDepth 20000 in
theorem gX1_changeEdge_X6_flipEdge : GoodIn wsX1_changeEdge (wsV RX1 44 RX6 yX6_flipEdge wsX6_flipEdge) := goodIn_app (goodIn_of _ (by decide +kernel)) ggX1_changeEdge_X6_flipEdge
theorem dX1_changeEdge_0 : decode cX1_changeEdge 0 = .ok (.aload_n 0, 1) := by decide +kernel
theorem dX1_changeEdge_1 : decode cX1_changeEdge 1 = .ok (.aload_n 1, 1) := by decide +kernel
theorem dX1_changeEdge_2 : decode cX1_changeEdge 2 = .ok (.getfield 36, 3) := by decide +kernel
theorem dX1_changeEdge_5 : decode cX1_changeEdge 5 = .ok (.invokevirtual 22, 3) := by decide +kernel
theorem dX1_changeEdge_8 : decode cX1_changeEdge 8 = .ok (.istore_n 2, 1) := by decide +kernel
theorem dX1_changeEdge_9 : decode cX1_changeEdge 9 = .ok (.aload_n 0, 1) := by decide +kernel
theorem dX1_changeEdge_10 : decode cX1_changeEdge 10 = .ok (.aload_n 1, 1) := by decide +kernel
theorem dX1_changeEdge_11 : decode cX1_changeEdge 11 = .ok (.getfield 36, 3) := by decide +kernel
theorem dX1_changeEdge_14 : decode cX1_changeEdge 14 = .ok (.invokevirtual 22, 3) := by decide +kernel
theorem dX1_changeEdge_17 : decode cX1_changeEdge 17 = .ok (.istore_n 3, 1) := by decide +kernel
theorem dX1_changeEdge_18 : decode cX1_changeEdge 18 = .ok (.aload_n 1, 1) := by decide +kernel
theorem dX1_changeEdge_19 : decode cX1_changeEdge 19 = .ok (.iload_n 2, 1) := by decide +kernel
theorem dX1_changeEdge_20 : decode cX1_changeEdge 20 = .ok (.iload_n 3, 1) := by decide +kernel
theorem dX1_changeEdge_21 : decode cX1_changeEdge 21 = .ok (.invokevirtual 44, 3) := by decide +kernel
theorem dX1_changeEdge_24 : decode cX1_changeEdge 24 = .ok (.return_, 1) := by decide +kernel
set_option maxRecDepth 20000 in
theorem ggX1_changeColumns_X1_draw : GoodIn wsX1_changeColumns wsX1_draw := goodIn_r _ [7, 8, 9, 10, 11, 12, 27] (by decide +kernel) (by decide +kernel)
set_option maxRecDepth 20000 in
theorem gX1_changeColumns_X1_draw : GoodIn wsX1_changeColumns (wsV RX1 22 RX1 yX1_draw wsX1_draw) := goodIn_app (goodIn_of _ (by decide +kernel)) ggX1_changeColumns_X1_draw
set_option maxRecDepth 20000 in
theorem ggX1_changeColumns_X6_hasItem : GoodIn wsX1_changeColumns wsX6_hasItem := goodIn_r _ [17, 18, 19, 20, 21, 22, 23, 24, 25, 26] (by decide +kernel) (by decide +kernel)
set_option maxRecDepth 20000 in
theorem gX1_changeColumns_X6_hasItem : GoodIn wsX1_changeColumns (wsV RX1 48 RX6 yX6_hasItem wsX6_hasItem) := goodIn_app (goodIn_of _ (by decide +kernel)) ggX1_changeColumns_X6_hasItem
theorem dX1_changeColumns_0 : decode cX1_changeColumns 0 = .ok (.aload_n 0, 1) := by decide +kernel
theorem dX1_changeColumns_1 : decode cX1_changeColumns 1 = .ok (.aload_n 1, 1) := by decide +kernel
theorem dX1_changeColumns_2 : decode cX1_changeColumns 2 = .ok (.getfield 36, 3) := by decide +kernel
theorem dX1_changeColumns_5 : decode cX1_changeColumns 5 = .ok (.invokevirtual 22, 3) := by decide +kernel
theorem dX1_changeColumns_8 : decode cX1_changeColumns 8 = .ok (.istore_n 2, 1) := by decide +kernel
theorem dX1_changeColumns_9 : decode cX1_changeColumns 9 = .ok (.aload_n 0, 1) := by decide +kernel
theorem dX1_changeColumns_10 : decode cX1_changeColumns 10 = .ok (.sipush 256, 3) := by decide +kernel
theorem dX1_changeColumns_13 : decode cX1_changeColumns 13 = .ok (.invokevirtual 22, 3) := by decide +kernel
theorem dX1_changeColumns_16 : decode cX1_changeColumns 16 = .ok (.istore_n 3, 1) := by decide +kernel
theorem dX1_changeColumns_17 : decode cX1_changeColumns 17 = .ok (.aload_n 1, 1) := by decide +kernel
theorem dX1_changeColumns_18 : decode cX1_changeColumns 18 = .ok (.iload_n 2, 1) := by decide +kernel
theorem dX1_changeColumns_19 : decode cX1_changeColumns 19 = .ok (.invokevirtual 48, 3) := by decide +kernel
theorem dX1_changeColumns_22 : decode cX1_changeColumns 22 = .ok (.ifCond .eq 10, 3) := by decide +kernel
theorem dX1_changeColumns_25 : decode cX1_changeColumns 25 = .ok (.aload_n 1, 1) := by decide +kernel
theorem dX1_changeColumns_26 : decode cX1_changeColumns 26 = .ok (.getfield 52, 3) := by decide +kernel
theorem dX1_changeColumns_29 : decode cX1_changeColumns 29 = .ok (.iload_n 2, 1) := by decide +kernel
theorem dX1_changeColumns_30 : decode cX1_changeColumns 30 = .ok (.iload_n 3, 1) := by decide +kernel
theorem dX1_changeColumns_31 : decode cX1_changeColumns 31 = .ok (.iastore, 1) := by decide +kernel
theorem dX1_changeColumns_32 : decode cX1_changeColumns 32 = .ok (.return_, 1) := by decide +kernel
set_option maxRecDepth 20000 in
theorem ggX1_changeMachine_X1_draw : GoodIn wsX1_changeMachine wsX1_draw := goodIn_r _ [7, 8, 9, 10, 11, 12, 37] (by decide +kernel) (by decide +kernel)
set_option maxRecDepth 20000 in
theorem gX1_changeMachine_X1_draw : GoodIn wsX1_changeMachine (wsV RX1 22 RX1 yX1_draw wsX1_draw) := goodIn_app (goodIn_of _ (by decide +kernel)) ggX1_changeMachine_X1_draw
set_option maxRecDepth 20000 in
theorem ggX1_changeMachine_X6_lead : GoodIn wsX1_changeMachine wsX6_lead := goodIn_r _ [17, 18, 19, 20, 21, 16, 22, 23, 24, 25, 26, 27, 28, 29, 30, 31, 32, 33, 34, 35, 36] (by decide +kernel) (by decide +kernel)
set_option maxRecDepth 20000 in
theorem gX1_changeMachine_X6_lead : GoodIn wsX1_changeMachine (wsV RX1 59 RX6 yX6_lead wsX6_lead) := goodIn_app (goodIn_of _ (by decide +kernel)) ggX1_changeMachine_X6_lead
theorem dX1_changeMachine_0 : decode cX1_changeMachine 0 = .ok (.aload_n 0, 1) := by decide +kernel
theorem dX1_changeMachine_1 : decode cX1_changeMachine 1 = .ok (.aload_n 1, 1) := by decide +kernel
theorem dX1_changeMachine_2 : decode cX1_changeMachine 2 = .ok (.getfield 36, 3) := by decide +kernel
theorem dX1_changeMachine_5 : decode cX1_changeMachine 5 = .ok (.invokevirtual 22, 3) := by decide +kernel
theorem dX1_changeMachine_8 : decode cX1_changeMachine 8 = .ok (.istore_n 2, 1) := by decide +kernel
theorem dX1_changeMachine_9 : decode cX1_changeMachine 9 = .ok (.aload_n 0, 1) := by decide +kernel
theorem dX1_changeMachine_10 : decode cX1_changeMachine 10 = .ok (.aload_n 1, 1) := by decide +kernel
theorem dX1_changeMachine_11 : decode cX1_changeMachine 11 = .ok (.getfield 56, 3) := by decide +kernel
theorem dX1_changeMachine_14 : decode cX1_changeMachine 14 = .ok (.invokevirtual 22, 3) := by decide +kernel
theorem dX1_changeMachine_17 : decode cX1_changeMachine 17 = .ok (.istore_n 3, 1) := by decide +kernel
theorem dX1_changeMachine_18 : decode cX1_changeMachine 18 = .ok (.aload_n 0, 1) := by decide +kernel
theorem dX1_changeMachine_19 : decode cX1_changeMachine 19 = .ok (.aload_n 1, 1) := by decide +kernel
theorem dX1_changeMachine_20 : decode cX1_changeMachine 20 = .ok (.getfield 36, 3) := by decide +kernel
theorem dX1_changeMachine_23 : decode cX1_changeMachine 23 = .ok (.invokevirtual 22, 3) := by decide +kernel
theorem dX1_changeMachine_26 : decode cX1_changeMachine 26 = .ok (.istore 4, 2) := by decide +kernel
theorem dX1_changeMachine_28 : decode cX1_changeMachine 28 = .ok (.aload_n 1, 1) := by decide +kernel
theorem dX1_changeMachine_29 : decode cX1_changeMachine 29 = .ok (.iload_n 2, 1) := by decide +kernel
theorem dX1_changeMachine_30 : decode cX1_changeMachine 30 = .ok (.iload_n 3, 1) := by decide +kernel
theorem dX1_changeMachine_31 : decode cX1_changeMachine 31 = .ok (.iload 4, 2) := by decide +kernel
theorem dX1_changeMachine_33 : decode cX1_changeMachine 33 = .ok (.invokevirtual 59, 3) := by decide +kernel
theorem dX1_changeMachine_36 : decode cX1_changeMachine 36 = .ok (.return_, 1) := by decide +kernel
set_option maxRecDepth 20000 in
theorem ggX2_init_X6_init : GoodIn wsX2_init wsX6_init := goodIn_r _ [12, 13, 2, 3, 14, 15, 16, 17, 18, 19, 20, 21, 22, 23, 24, 25, 26, 27, 28, 29, 30, 7, 31, 32, 33, 34, 35, 36, 37, 38, 39, 40, 41, 42, 43, 44, 45, 46, 47, 48, 49, 50, 51, 52, 53, 54, 55, 56, 57, 58, 59, 60, 61, 62, 63, 67, 68, 69, 70, 71, 72, 73, 74, 75, 76] (by decide +kernel) (by decide +kernel)
set_option maxRecDepth 20000 in
theorem gX2_init_X6_init : GoodIn wsX2_init (wsX6_init) := ggX2_init_X6_init
theorem dX2_init_0 : decode cX2_init 0 = .ok (.aload_n 0, 1) := by decide +kernel
theorem dX2_init_1 : decode cX2_init 1 = .ok (.invokespecial 3, 3) := by decide +kernel
theorem dX2_init_4 : decode cX2_init 4 = .ok (.aload_n 0, 1) := by decide +kernel
theorem dX2_init_5 : decode cX2_init 5 = .ok (.bipush 16, 2) := by decide +kernel
theorem dX2_init_7 : decode cX2_init 7 = .ok (.anewarray 9, 3) := by decide +kernel
theorem dX2_init_10 : decode cX2_init 10 = .ok (.putfield 11, 3) := by decide +kernel
theorem dX2_init_13 : decode cX2_init 13 = .ok (.iconst 0, 1) := by decide +kernel
theorem dX2_init_14 : decode cX2_init 14 = .ok (.istore_n 1, 1) := by decide +kernel
theorem dX2_init_15 : decode cX2_init 15 = .ok (.iload_n 1, 1) := by decide +kernel
theorem dX2_init_16 : decode cX2_init 16 = .ok (.bipush 16, 2) := by decide +kernel
theorem dX2_init_18 : decode cX2_init 18 = .ok (.if_icmp .ge 22, 3) := by decide +kernel
theorem dX2_init_21 : decode cX2_init 21 = .ok (.aload_n 0, 1) := by decide +kernel
theorem dX2_init_22 : decode cX2_init 22 = .ok (.getfield 11, 3) := by decide +kernel
theorem dX2_init_25 : decode cX2_init 25 = .ok (.iload_n 1, 1) := by decide +kernel
theorem dX2_init_26 : decode cX2_init 26 = .ok (.new 9, 3) := by decide +kernel
theorem dX2_init_29 : decode cX2_init 29 = .ok (.dup, 1) := by decide +kernel
theorem dX2_init_30 : decode cX2_init 30 = .ok (.invokespecial 17, 3) := by decide +kernel
theorem dX2_init_33 : decode cX2_init 33 = .ok (.aastore, 1) := by decide +kernel
theorem dX2_init_34 : decode cX2_init 34 = .ok (.iinc 1 1, 3) := by decide +kernel
theorem dX2_init_37 : decode cX2_init 37 = .ok (.goto (-22), 3) := by decide +kernel
theorem dX2_init_40 : decode cX2_init 40 = .ok (.aload_n 0, 1) := by decide +kernel
theorem dX2_init_41 : decode cX2_init 41 = .ok (.iconst 0, 1) := by decide +kernel
theorem dX2_init_42 : decode cX2_init 42 = .ok (.putfield 18, 3) := by decide +kernel
theorem dX2_init_45 : decode cX2_init 45 = .ok (.aload_n 0, 1) := by decide +kernel
theorem dX2_init_46 : decode cX2_init 46 = .ok (.iconst 0, 1) := by decide +kernel
theorem dX2_init_47 : decode cX2_init 47 = .ok (.putfield 22, 3) := by decide +kernel
theorem dX2_init_50 : decode cX2_init 50 = .ok (.return_, 1) := by decide +kernel
set_option maxRecDepth 20000 in
theorem ggX2_remember_X6_copyFrom : GoodIn wsX2_remember wsX6_copyFrom := goodIn_r _ [12, 13, 14, 15, 16, 17, 18, 19, 20, 21, 22, 23, 24, 25, 26, 27, 28, 29, 30, 31, 32, 36, 37, 38, 39, 40, 41, 42, 43, 44, 45] (by decide +kernel) (by decide +kernel)
set_option maxRecDepth 20000 in
theorem gX2_remember_X6_copyFrom : GoodIn wsX2_remember (wsV RX2 25 RX6 yX6_copyFrom wsX6_copyFrom) := goodIn_app (goodIn_of _ (by decide +kernel)) ggX2_remember_X6_copyFrom
theorem dX2_remember_0 : decode cX2_remember 0 = .ok (.aload_n 0, 1) := by decide +kernel
theorem dX2_remember_1 : decode cX2_remember 1 = .ok (.getfield 11, 3) := by decide +kernel
theorem dX2_remember_4 : decode cX2_remember 4 = .ok (.aload_n 0, 1) := by decide +kernel
theorem dX2_remember_5 : decode cX2_remember 5 = .ok (.getfield 18, 3) := by decide +kernel
theorem dX2_remember_8 : decode cX2_remember 8 = .ok (.aaload, 1) := by decide +kernel
theorem dX2_remember_9 : decode cX2_remember 9 = .ok (.aload_n 1, 1) := by decide +kernel
theorem dX2_remember_10 : decode cX2_remember 10 = .ok (.invokevirtual 25, 3) := by decide +kernel
theorem dX2_remember_13 : decode cX2_remember 13 = .ok (.aload_n 0, 1) := by decide +kernel
theorem dX2_remember_14 : decode cX2_remember 14 = .ok (.aload_n 0, 1) := by decide +kernel
theorem dX2_remember_15 : decode cX2_remember 15 = .ok (.getfield 18, 3) := by decide +kernel
theorem dX2_remember_18 : decode cX2_remember 18 = .ok (.iconst 1, 1) := by decide +kernel
theorem dX2_remember_19 : decode cX2_remember 19 = .ok (.iadd, 1) := by decide +kernel
theorem dX2_remember_20 : decode cX2_remember 20 = .ok (.bipush 16, 2) := by decide +kernel
theorem dX2_remember_22 : decode cX2_remember 22 = .ok (.irem, 1) := by decide +kernel
theorem dX2_remember_23 : decode cX2_remember 23 = .ok (.putfield 18, 3) := by decide +kernel
theorem dX2_remember_26 : decode cX2_remember 26 = .ok (.aload_n 0, 1) := by decide +kernel
theorem dX2_remember_27 : decode cX2_remember 27 = .ok (.aload_n 0, 1) := by decide +kernel
theorem dX2_remember_28 : decode cX2_remember 28 = .ok (.getfield 22, 3) := by decide +kernel
theorem dX2_remember_31 : decode cX2_remember 31 = .ok (.iconst 1, 1) := by decide +kernel
theorem dX2_remember_32 : decode cX2_remember 32 = .ok (.iadd, 1) := by decide +kernel
theorem dX2_remember_33 : decode cX2_remember 33 = .ok (.bipush 16, 2) := by decide +kernel
theorem dX2_remember_35 : decode cX2_remember 35 = .ok (.invokestatic 29, 3) := by decide +kernel
theorem dX2_remember_38 : decode cX2_remember 38 = .ok (.putfield 22, 3) := by decide +kernel
theorem dX2_remember_41 : decode cX2_remember 41 = .ok (.return_, 1) := by decide +kernel
set_option maxRecDepth 20000 in
theorem ggX2_takeBack_J9_floorMod_7cf53 : GoodIn wsX2_takeBack wsJ9_floorMod_7cf53 := goodIn_r _ [7] (by decide +kernel) (by decide +kernel)
set_option maxRecDepth 20000 in
theorem gX2_takeBack_J9_floorMod_7cf53 : GoodIn wsX2_takeBack (va_wsS RX2 35 yJ9_floorMod_7cf53 wsJ9_floorMod_7cf53) := goodIn_app (goodIn_of _ (by decide +kernel)) ggX2_takeBack_J9_floorMod_7cf53
set_option maxRecDepth 20000 in
theorem ggX2_takeBack_X6_copyFrom : GoodIn wsX2_takeBack wsX6_copyFrom := goodIn_r _ [12, 13, 14, 15, 16, 17, 18, 19, 20, 21, 22, 23, 24, 25, 26, 27, 28, 29, 30, 31, 32, 36, 37, 38, 39, 40, 41, 42, 43, 44, 45] (by decide +kernel) (by decide +kernel)
set_option maxRecDepth 20000 in
theorem gX2_takeBack_X6_copyFrom : GoodIn wsX2_takeBack (wsV RX2 25 RX6 yX6_copyFrom wsX6_copyFrom) := goodIn_app (goodIn_of _ (by decide +kernel)) ggX2_takeBack_X6_copyFrom
theorem dX2_takeBack_0 : decode cX2_takeBack 0 = .ok (.aload_n 0, 1) := by decide +kernel
theorem dX2_takeBack_1 : decode cX2_takeBack 1 = .ok (.aload_n 0, 1) := by decide +kernel
theorem dX2_takeBack_2 : decode cX2_takeBack 2 = .ok (.getfield 18, 3) := by decide +kernel
theorem dX2_takeBack_5 : decode cX2_takeBack 5 = .ok (.iload_n 1, 1) := by decide +kernel
theorem dX2_takeBack_6 : decode cX2_takeBack 6 = .ok (.isub, 1) := by decide +kernel
theorem dX2_takeBack_7 : decode cX2_takeBack 7 = .ok (.bipush 16, 2) := by decide +kernel
theorem dX2_takeBack_9 : decode cX2_takeBack 9 = .ok (.invokestatic 35, 3) := by decide +kernel
theorem dX2_takeBack_12 : decode cX2_takeBack 12 = .ok (.putfield 18, 3) := by decide +kernel
theorem dX2_takeBack_15 : decode cX2_takeBack 15 = .ok (.aload_n 2, 1) := by decide +kernel
theorem dX2_takeBack_16 : decode cX2_takeBack 16 = .ok (.aload_n 0, 1) := by decide +kernel
theorem dX2_takeBack_17 : decode cX2_takeBack 17 = .ok (.getfield 11, 3) := by decide +kernel
theorem dX2_takeBack_20 : decode cX2_takeBack 20 = .ok (.aload_n 0, 1) := by decide +kernel
theorem dX2_takeBack_21 : decode cX2_takeBack 21 = .ok (.getfield 18, 3) := by decide +kernel
theorem dX2_takeBack_24 : decode cX2_takeBack 24 = .ok (.aaload, 1) := by decide +kernel
theorem dX2_takeBack_25 : decode cX2_takeBack 25 = .ok (.invokevirtual 25, 3) := by decide +kernel
theorem dX2_takeBack_28 : decode cX2_takeBack 28 = .ok (.aload_n 0, 1) := by decide +kernel
theorem dX2_takeBack_29 : decode cX2_takeBack 29 = .ok (.dup, 1) := by decide +kernel
theorem dX2_takeBack_30 : decode cX2_takeBack 30 = .ok (.getfield 22, 3) := by decide +kernel
theorem dX2_takeBack_33 : decode cX2_takeBack 33 = .ok (.iload_n 1, 1) := by decide +kernel
theorem dX2_takeBack_34 : decode cX2_takeBack 34 = .ok (.isub, 1) := by decide +kernel
theorem dX2_takeBack_35 : decode cX2_takeBack 35 = .ok (.putfield 22, 3) := by decide +kernel
theorem dX2_takeBack_38 : decode cX2_takeBack 38 = .ok (.return_, 1) := by decide +kernel
set_option maxRecDepth 20000 in
theorem ggX3_init_X6_init : GoodIn wsX3_init wsX6_init := goodIn_r _ [12, 13, 2, 3, 14, 15, 16, 17, 18, 19, 20, 21, 22, 23, 24, 25, 26, 27, 28, 29, 30, 8, 31, 32, 33, 34, 35, 36, 37, 38, 39, 40, 41, 42, 43, 44, 45, 46, 47, 48, 49, 50, 51, 52, 53, 54, 55, 56, 57, 58, 59, 60, 61, 62, 63, 67, 68, 69, 70, 71, 72, 73, 74, 75, 76] (by decide +kernel) (by decide +kernel)
set_option maxRecDepth 20000 in
theorem gX3_init_X6_init : GoodIn wsX3_init (wsX6_init) := ggX3_init_X6_init
theorem dX3_init_0 : decode cX3_init 0 = .ok (.aload_n 0, 1) := by decide +kernel
theorem dX3_init_1 : decode cX3_init 1 = .ok (.invokespecial 1, 3) := by decide +kernel
theorem dX3_init_4 : decode cX3_init 4 = .ok (.aload_n 0, 1) := by decide +kernel
theorem dX3_init_5 : decode cX3_init 5 = .ok (.iconst 0, 1) := by decide +kernel
theorem dX3_init_6 : decode cX3_init 6 = .ok (.putfield 7, 3) := by decide +kernel
theorem dX3_init_9 : decode cX3_init 9 = .ok (.aload_n 0, 1) := by decide +kernel
theorem dX3_init_10 : decode cX3_init 10 = .ok (.iconst 0, 1) := by decide +kernel
theorem dX3_init_11 : decode cX3_init 11 = .ok (.putfield 13, 3) := by decide +kernel
theorem dX3_init_14 : decode cX3_init 14 = .ok (.aload_n 0, 1) := by decide +kernel
theorem dX3_init_15 : decode cX3_init 15 = .ok (.new 17, 3) := by decide +kernel
theorem dX3_init_18 : decode cX3_init 18 = .ok (.dup, 1) := by decide +kernel
theorem dX3_init_19 : decode cX3_init 19 = .ok (.invokespecial 19, 3) := by decide +kernel
theorem dX3_init_22 : decode cX3_init 22 = .ok (.putfield 20, 3) := by decide +kernel
theorem dX3_init_25 : decode cX3_init 25 = .ok (.return_, 1) := by decide +kernel
set_option maxRecDepth 20000 in
theorem ggX4_init_X5_init : GoodIn wsX4_init wsX5_init := goodIn_r _ [10, 11, 2, 3, 12, 13, 14, 15, 16] (by decide +kernel) (by decide +kernel)
set_option maxRecDepth 20000 in
theorem gX4_init_X5_init : GoodIn wsX4_init (wsX5_init) := ggX4_init_X5_init
theorem dX4_init_0 : decode cX4_init 0 = .ok (.aload_n 0, 1) := by decide +kernel
theorem dX4_init_1 : decode cX4_init 1 = .ok (.invokespecial 3, 3) := by decide +kernel
theorem dX4_init_4 : decode cX4_init 4 = .ok (.aload_n 0, 1) := by decide +kernel
theorem dX4_init_5 : decode cX4_init 5 = .ok (.new 9, 3) := by decide +kernel
theorem dX4_init_8 : decode cX4_init 8 = .ok (.dup, 1) := by decide +kernel
theorem dX4_init_9 : decode cX4_init 9 = .ok (.invokespecial 11, 3) := by decide +kernel
theorem dX4_init_12 : decode cX4_init 12 = .ok (.putfield 12, 3) := by decide +kernel
theorem dX4_init_15 : decode cX4_init 15 = .ok (.return_, 1) := by decide +kernel
set_option maxRecDepth 20000 in
theorem ggX4_refineRow_X5_cutBy : GoodIn wsX4_refineRow wsX5_cutBy := goodIn_r _ [6, 7, 8, 9, 10, 11, 5, 12, 115, 116] (by decide +kernel) (by decide +kernel)
set_option maxRecDepth 20000 in
theorem gX4_refineRow_X5_cutBy : GoodIn wsX4_refineRow (wsV RX4 24 RX5 yX5_cutBy wsX5_cutBy) := goodIn_app (goodIn_of _ (by decide +kernel)) ggX4_refineRow_X5_cutBy
set_option maxRecDepth 20000 in
theorem ggX4_refineRow_X4_settle : GoodIn wsX4_refineRow wsX4_settle := goodIn_r _ [17, 18, 19, 20, 21, 22, 5, 23, 8, 24, 25, 26, 27, 7, 28, 29, 30, 16, 31, 32, 33, 34, 35, 36, 37, 38, 39, 40, 41, 42, 43, 44, 45, 46, 47, 48, 49, 50, 51, 52, 53, 54, 55, 56, 57, 58, 59, 60, 2, 3, 4, 6, 9, 10, 11, 12, 61, 62, 63, 64, 65, 66, 67, 68, 69, 70, 71, 72, 73, 74, 75, 76, 77, 78, 79, 80, 81, 82, 83, 84, 85, 86, 87, 88, 117, 115, 116, 107, 108, 109, 110, 111, 112, 113, 114] (by decide +kernel) (by decide +kernel)
set_option maxRecDepth 20000 in
theorem gX4_refineRow_X4_settle : GoodIn wsX4_refineRow (wsV RX4 28 RX4 yX4_settle wsX4_settle) := goodIn_app (goodIn_of _ (by decide +kernel)) ggX4_refineRow_X4_settle
set_option maxRecDepth 20000 in
theorem ggX4_refineRow_X4_cutByAll : GoodIn wsX4_refineRow wsX4_cutByAll := goodIn_r _ [92, 93, 94, 95, 96, 44, 97, 76, 98, 52, 53, 54, 55, 46, 99, 100, 101, 102, 103, 104, 34, 35, 5, 36, 8, 37, 38, 39, 40, 7, 105, 42, 43, 45, 47, 48, 49, 50, 51, 56, 57, 58, 59, 60, 106, 73, 74, 75, 77, 66, 67, 68, 69, 70, 71, 2, 3, 4, 6, 9, 10, 11, 12, 107, 108, 109, 110, 111, 112, 113, 114, 115, 116] (by decide +kernel) (by decide +kernel)
set_option maxRecDepth 20000 in
theorem gX4_refineRow_X4_cutByAll : GoodIn wsX4_refineRow (wsV RX4 32 RX4 yX4_cutByAll wsX4_cutByAll) := goodIn_app (goodIn_of _ (by decide +kernel)) ggX4_refineRow_X4_cutByAll
theorem dX4_refineRow_0 : decode cX4_refineRow 0 = .ok (.iload_n 3, 1) := by decide +kernel
theorem dX4_refineRow_1 : decode cX4_refineRow 1 = .ok (.lookupswitch 55 #[(3, 27), (4, 45)], 27) := by decide +kernel
theorem dX4_refineRow_28 : decode cX4_refineRow 28 = .ok (.aload_n 2, 1) := by decide +kernel
theorem dX4_refineRow_29 : decode cX4_refineRow 29 = .ok (.aload_n 1, 1) := by decide +kernel
theorem dX4_refineRow_30 : decode cX4_refineRow 30 = .ok (.getfield 18, 3) := by decide +kernel
theorem dX4_refineRow_33 : decode cX4_refineRow 33 = .ok (.invokevirtual 24, 3) := by decide +kernel
theorem dX4_refineRow_36 : decode cX4_refineRow 36 = .ok (.aload_n 0, 1) := by decide +kernel
theorem dX4_refineRow_37 : decode cX4_refineRow 37 = .ok (.aload_n 1, 1) := by decide +kernel
theorem dX4_refineRow_38 : decode cX4_refineRow 38 = .ok (.aload_n 2, 1) := by decide +kernel
theorem dX4_refineRow_39 : decode cX4_refineRow 39 = .ok (.iconst 1, 1) := by decide +kernel
theorem dX4_refineRow_40 : decode cX4_refineRow 40 = .ok (.invokevirtual 28, 3) := by decide +kernel
theorem dX4_refineRow_43 : decode cX4_refineRow 43 = .ok (.goto 20, 3) := by decide +kernel
theorem dX4_refineRow_46 : decode cX4_refineRow 46 = .ok (.aload_n 0, 1) := by decide +kernel
theorem dX4_refineRow_47 : decode cX4_refineRow 47 = .ok (.aload_n 1, 1) := by decide +kernel
theorem dX4_refineRow_48 : decode cX4_refineRow 48 = .ok (.aload_n 2, 1) := by decide +kernel
theorem dX4_refineRow_49 : decode cX4_refineRow 49 = .ok (.iconst 0, 1) := by decide +kernel
theorem dX4_refineRow_50 : decode cX4_refineRow 50 = .ok (.invokevirtual 28, 3) := by decide +kernel
theorem dX4_refineRow_53 : decode cX4_refineRow 53 = .ok (.goto 10, 3) := by decide +kernel
theorem dX4_refineRow_56 : decode cX4_refineRow 56 = .ok (.aload_n 0, 1) := by decide +kernel
theorem dX4_refineRow_57 : decode cX4_refineRow 57 = .ok (.aload_n 1, 1) := by decide +kernel
theorem dX4_refineRow_58 : decode cX4_refineRow 58 = .ok (.aload_n 2, 1) := by decide +kernel
theorem dX4_refineRow_59 : decode cX4_refineRow 59 = .ok (.iload_n 3, 1) := by decide +kernel
theorem dX4_refineRow_60 : decode cX4_refineRow 60 = .ok (.invokevirtual 32, 3) := by decide +kernel
theorem dX4_refineRow_63 : decode cX4_refineRow 63 = .ok (.return_, 1) := by decide +kernel
set_option maxRecDepth 20000 in
theorem ggX4_cutByAll_X6_setOfKind : GoodIn wsX4_cutByAll wsX6_setOfKind := goodIn_r _ [6, 7, 8, 9, 10, 11, 5, 12, 13, 14, 15, 16, 17, 18, 19, 20, 21, 22, 23, 24, 25, 26, 27, 28, 29, 30, 31, 32, 33, 34, 35, 36, 37, 38, 39, 40, 41, 42, 43, 44, 45, 46, 47, 48, 49, 50, 51, 52, 53, 54, 63, 64, 65, 66, 67, 68, 69, 70, 71, 72] (by decide +kernel) (by decide +kernel)
set_option maxRecDepth 20000 in
theorem gX4_cutByAll_X6_setOfKind : GoodIn wsX4_cutByAll (wsV RX4 39 RX6 yX6_setOfKind wsX6_setOfKind) := goodIn_app (goodIn_of _ (by decide +kernel)) ggX4_cutByAll_X6_setOfKind
set_option maxRecDepth 20000 in
theorem ggX4_cutByAll_X5_cutBy : GoodIn wsX4_cutByAll wsX5_cutBy := goodIn_r _ [58, 29, 24, 59, 60, 61, 22, 62, 71, 72] (by decide +kernel) (by decide +kernel)
set_option maxRecDepth 20000 in
theorem gX4_cutByAll_X5_cutBy : GoodIn wsX4_cutByAll (wsV RX4 24 RX5 yX5_cutBy wsX5_cutBy) := goodIn_app (goodIn_of _ (by decide +kernel)) ggX4_cutByAll_X5_cutBy
theorem dX4_cutByAll_0 : decode cX4_cutByAll 0 = .ok (.iload_n 3, 1) := by decide +kernel
theorem dX4_cutByAll_1 : decode cX4_cutByAll 1 = .ok (.iconst 2, 1) := by decide +kernel
theorem dX4_cutByAll_2 : decode cX4_cutByAll 2 = .ok (.if_icmp .ne 8, 3) := by decide +kernel
theorem dX4_cutByAll_5 : decode cX4_cutByAll 5 = .ok (.bipush 8, 2) := by decide +kernel
theorem dX4_cutByAll_7 : decode cX4_cutByAll 7 = .ok (.goto 7, 3) := by decide +kernel
theorem dX4_cutByAll_10 : decode cX4_cutByAll 10 = .ok (.aload_n 1, 1) := by decide +kernel
theorem dX4_cutByAll_11 : decode cX4_cutByAll 11 = .ok (.getfield 36, 3) := by decide +kernel
theorem dX4_cutByAll_14 : decode cX4_cutByAll 14 = .ok (.istore 4, 2) := by decide +kernel
theorem dX4_cutByAll_16 : decode cX4_cutByAll 16 = .ok (.iconst 0, 1) := by decide +kernel
theorem dX4_cutByAll_17 : decode cX4_cutByAll 17 = .ok (.istore 5, 2) := by decide +kernel
theorem dX4_cutByAll_19 : decode cX4_cutByAll 19 = .ok (.iload 5, 2) := by decide +kernel
theorem dX4_cutByAll_21 : decode cX4_cutByAll 21 = .ok (.iload 4, 2) := by decide +kernel
theorem dX4_cutByAll_23 : decode cX4_cutByAll 23 = .ok (.if_icmp .ge 22, 3) := by decide +kernel
theorem dX4_cutByAll_26 : decode cX4_cutByAll 26 = .ok (.aload_n 2, 1) := by decide +kernel
theorem dX4_cutByAll_27 : decode cX4_cutByAll 27 = .ok (.aload_n 1, 1) := by decide +kernel
theorem dX4_cutByAll_28 : decode cX4_cutByAll 28 = .ok (.aload_n 2, 1) := by decide +kernel
theorem dX4_cutByAll_29 : decode cX4_cutByAll 29 = .ok (.iload_n 3, 1) := by decide +kernel
theorem dX4_cutByAll_30 : decode cX4_cutByAll 30 = .ok (.iload 5, 2) := by decide +kernel
theorem dX4_cutByAll_32 : decode cX4_cutByAll 32 = .ok (.iconst 0, 1) := by decide +kernel
theorem dX4_cutByAll_33 : decode cX4_cutByAll 33 = .ok (.invokevirtual 39, 3) := by decide +kernel
theorem dX4_cutByAll_36 : decode cX4_cutByAll 36 = .ok (.invokevirtual 24, 3) := by decide +kernel
theorem dX4_cutByAll_39 : decode cX4_cutByAll 39 = .ok (.iinc 5 1, 3) := by decide +kernel
theorem dX4_cutByAll_42 : decode cX4_cutByAll 42 = .ok (.goto (-23), 3) := by decide +kernel
theorem dX4_cutByAll_45 : decode cX4_cutByAll 45 = .ok (.return_, 1) := by decide +kernel
set_option maxRecDepth 20000 in
theorem ggX4_settle_X5_copyFrom : GoodIn wsX4_settle wsX5_copyFrom := goodIn_r _ [7, 8, 9, 10, 11, 12, 13, 85, 86] (by decide +kernel) (by decide +kernel)
set_option maxRecDepth 20000 in
theorem gX4_settle_X5_copyFrom : GoodIn wsX4_settle (wsV RX4 43 RX5 yX5_copyFrom wsX5_copyFrom) := goodIn_app (goodIn_of _ (by decide +kernel)) ggX4_settle_X5_copyFrom
set_option maxRecDepth 20000 in
theorem ggX4_settle_X4_cutByLetters : GoodIn wsX4_settle wsX4_cutByLetters := goodIn_r _ [18, 19, 1, 2, 20, 21, 22, 6, 23, 8, 24, 25, 26, 27, 13, 28, 29, 30, 31, 32, 33, 34, 35, 36, 37, 38, 39, 40, 41, 42, 43, 44, 45, 46, 47, 48, 49, 50, 51, 52, 53, 54, 55, 87, 88, 89, 90, 91, 92, 93, 94, 84, 85, 86] (by decide +kernel) (by decide +kernel)
set_option maxRecDepth 20000 in
theorem gX4_settle_X4_cutByLetters : GoodIn wsX4_settle (wsV RX4 47 RX4 yX4_cutByLetters wsX4_cutByLetters) := goodIn_app (goodIn_of _ (by decide +kernel)) ggX4_settle_X4_cutByLetters
set_option maxRecDepth 20000 in
theorem ggX4_settle_X4_cutByNearCounts : GoodIn wsX4_settle wsX4_cutByNearCounts := goodIn_r _ [59, 1, 2, 20, 21, 22, 6, 23, 8, 24, 25, 26, 27, 13, 60, 61, 62, 63, 64, 65, 66, 67, 68, 69, 31, 70, 33, 71, 72, 48, 49, 50, 51, 52, 53, 54, 55, 84, 85, 86, 87, 88, 89, 90, 91, 92, 93, 94] (by decide +kernel) (by decide +kernel)
set_option maxRecDepth 20000 in
theorem gX4_settle_X4_cutByNearCounts : GoodIn wsX4_settle (wsV RX4 51 RX4 yX4_cutByNearCounts wsX4_cutByNearCounts) := goodIn_app (goodIn_of _ (by decide +kernel)) ggX4_settle_X4_cutByNearCounts
set_option maxRecDepth 20000 in
theorem ggX4_settle_X5_sortByLeast : GoodIn wsX4_settle wsX5_sortByLeast := goodIn_r _ [76, 13, 8, 77, 78, 6, 79, 80, 81, 62, 82, 83, 85, 86] (by decide +kernel) (by decide +kernel)
set_option maxRecDepth 20000 in
theorem gX4_settle_X5_sortByLeast : GoodIn wsX4_settle (wsV RX4 57 RX5 yX5_sortByLeast wsX5_sortByLeast) := goodIn_app (goodIn_of _ (by decide +kernel)) ggX4_settle_X5_sortByLeast
theorem dX4_settle_0 : decode cX4_settle 0 = .ok (.iconst 0, 1) := by decide +kernel
theorem dX4_settle_1 : decode cX4_settle 1 = .ok (.istore 4, 2) := by decide +kernel
theorem dX4_settle_3 : decode cX4_settle 3 = .ok (.iload 4, 2) := by decide +kernel
theorem dX4_settle_5 : decode cX4_settle 5 = .ok (.bipush 12, 2) := by decide +kernel
theorem dX4_settle_7 : decode cX4_settle 7 = .ok (.if_icmp .ge 53, 3) := by decide +kernel
theorem dX4_settle_10 : decode cX4_settle 10 = .ok (.aload_n 0, 1) := by decide +kernel
theorem dX4_settle_11 : decode cX4_settle 11 = .ok (.getfield 12, 3) := by decide +kernel
theorem dX4_settle_14 : decode cX4_settle 14 = .ok (.aload_n 2, 1) := by decide +kernel
theorem dX4_settle_15 : decode cX4_settle 15 = .ok (.invokevirtual 43, 3) := by decide +kernel
theorem dX4_settle_18 : decode cX4_settle 18 = .ok (.iload_n 3, 1) := by decide +kernel
theorem dX4_settle_19 : decode cX4_settle 19 = .ok (.ifCond .eq 12, 3) := by decide +kernel
theorem dX4_settle_22 : decode cX4_settle 22 = .ok (.aload_n 0, 1) := by decide +kernel
theorem dX4_settle_23 : decode cX4_settle 23 = .ok (.aload_n 1, 1) := by decide +kernel
theorem dX4_settle_24 : decode cX4_settle 24 = .ok (.aload_n 2, 1) := by decide +kernel
theorem dX4_settle_25 : decode cX4_settle 25 = .ok (.invokevirtual 47, 3) := by decide +kernel
theorem dX4_settle_28 : decode cX4_settle 28 = .ok (.goto 9, 3) := by decide +kernel
theorem dX4_settle_31 : decode cX4_settle 31 = .ok (.aload_n 0, 1) := by decide +kernel
theorem dX4_settle_32 : decode cX4_settle 32 = .ok (.aload_n 1, 1) := by decide +kernel
theorem dX4_settle_33 : decode cX4_settle 33 = .ok (.aload_n 2, 1) := by decide +kernel
theorem dX4_settle_34 : decode cX4_settle 34 = .ok (.invokevirtual 51, 3) := by decide +kernel
theorem dX4_settle_37 : decode cX4_settle 37 = .ok (.aload_n 2, 1) := by decide +kernel
theorem dX4_settle_38 : decode cX4_settle 38 = .ok (.getfield 54, 3) := by decide +kernel
theorem dX4_settle_41 : decode cX4_settle 41 = .ok (.aload_n 0, 1) := by decide +kernel
theorem dX4_settle_42 : decode cX4_settle 42 = .ok (.getfield 12, 3) := by decide +kernel
theorem dX4_settle_45 : decode cX4_settle 45 = .ok (.getfield 54, 3) := by decide +kernel
theorem dX4_settle_48 : decode cX4_settle 48 = .ok (.if_icmp .ne 6, 3) := by decide +kernel
theorem dX4_settle_51 : decode cX4_settle 51 = .ok (.goto 9, 3) := by decide +kernel
theorem dX4_settle_54 : decode cX4_settle 54 = .ok (.iinc 4 1, 3) := by decide +kernel
theorem dX4_settle_57 : decode cX4_settle 57 = .ok (.goto (-54), 3) := by decide +kernel
theorem dX4_settle_60 : decode cX4_settle 60 = .ok (.aload_n 2, 1) := by decide +kernel
theorem dX4_settle_61 : decode cX4_settle 61 = .ok (.invokevirtual 57, 3) := by decide +kernel
theorem dX4_settle_64 : decode cX4_settle 64 = .ok (.return_, 1) := by decide +kernel
set_option maxRecDepth 20000 in
theorem ggX4_cutByLetters_X5_setAt : GoodIn wsX4_cutByLetters wsX5_setAt := goodIn_r _ [8, 9, 10, 11, 12, 7, 13, 14, 52, 53] (by decide +kernel) (by decide +kernel)
set_option maxRecDepth 20000 in
theorem gX4_cutByLetters_X5_setAt : GoodIn wsX4_cutByLetters (wsV RX4 63 RX5 yX5_setAt wsX5_setAt) := goodIn_app (goodIn_of _ (by decide +kernel)) ggX4_cutByLetters_X5_setAt
set_option maxRecDepth 20000 in
theorem ggX4_cutByLetters_X6_itemsThatGoInto : GoodIn wsX4_cutByLetters wsX6_itemsThatGoInto := goodIn_r _ [19, 20, 21, 22, 23, 18, 24, 25, 26, 27, 28, 29, 30, 31, 32, 33, 34, 43, 44, 45, 46, 47, 48, 49, 50] (by decide +kernel) (by decide +kernel)
set_option maxRecDepth 20000 in
theorem gX4_cutByLetters_X6_itemsThatGoInto : GoodIn wsX4_cutByLetters (wsV RX4 67 RX6 yX6_itemsThatGoInto wsX6_itemsThatGoInto) := goodIn_app (goodIn_of _ (by decide +kernel)) ggX4_cutByLetters_X6_itemsThatGoInto
set_option maxRecDepth 20000 in
theorem ggX4_cutByLetters_X5_cutBy : GoodIn wsX4_cutByLetters wsX5_cutBy := goodIn_r _ [38, 14, 9, 39, 40, 41, 7, 42, 52, 53] (by decide +kernel) (by decide +kernel)
set_option maxRecDepth 20000 in
theorem gX4_cutByLetters_X5_cutBy : GoodIn wsX4_cutByLetters (wsV RX4 24 RX5 yX5_cutBy wsX5_cutBy) := goodIn_app (goodIn_of _ (by decide +kernel)) ggX4_cutByLetters_X5_cutBy
theorem dX4_cutByLetters_0 : decode cX4_cutByLetters 0 = .ok (.iconst 0, 1) := by decide +kernel
theorem dX4_cutByLetters_1 : decode cX4_cutByLetters 1 = .ok (.istore_n 3, 1) := by decide +kernel
theorem dX4_cutByLetters_2 : decode cX4_cutByLetters 2 = .ok (.iload_n 3, 1) := by decide +kernel
theorem dX4_cutByLetters_3 : decode cX4_cutByLetters 3 = .ok (.aload_n 1, 1) := by decide +kernel
theorem dX4_cutByLetters_4 : decode cX4_cutByLetters 4 = .ok (.getfield 60, 3) := by decide +kernel
theorem dX4_cutByLetters_7 : decode cX4_cutByLetters 7 = .ok (.if_icmp .ge 48, 3) := by decide +kernel
theorem dX4_cutByLetters_10 : decode cX4_cutByLetters 10 = .ok (.iconst 0, 1) := by decide +kernel
theorem dX4_cutByLetters_11 : decode cX4_cutByLetters 11 = .ok (.istore 4, 2) := by decide +kernel
theorem dX4_cutByLetters_13 : decode cX4_cutByLetters 13 = .ok (.iload 4, 2) := by decide +kernel
theorem dX4_cutByLetters_15 : decode cX4_cutByLetters 15 = .ok (.aload_n 0, 1) := by decide +kernel
theorem dX4_cutByLetters_16 : decode cX4_cutByLetters 16 = .ok (.getfield 12, 3) := by decide +kernel
theorem dX4_cutByLetters_19 : decode cX4_cutByLetters 19 = .ok (.getfield 54, 3) := by decide +kernel
theorem dX4_cutByLetters_22 : decode cX4_cutByLetters 22 = .ok (.if_icmp .ge 27, 3) := by decide +kernel
theorem dX4_cutByLetters_25 : decode cX4_cutByLetters 25 = .ok (.aload_n 2, 1) := by decide +kernel
theorem dX4_cutByLetters_26 : decode cX4_cutByLetters 26 = .ok (.aload_n 1, 1) := by decide +kernel
theorem dX4_cutByLetters_27 : decode cX4_cutByLetters 27 = .ok (.iload_n 3, 1) := by decide +kernel
theorem dX4_cutByLetters_28 : decode cX4_cutByLetters 28 = .ok (.aload_n 0, 1) := by decide +kernel
theorem dX4_cutByLetters_29 : decode cX4_cutByLetters 29 = .ok (.getfield 12, 3) := by decide +kernel
theorem dX4_cutByLetters_32 : decode cX4_cutByLetters 32 = .ok (.iload 4, 2) := by decide +kernel
theorem dX4_cutByLetters_34 : decode cX4_cutByLetters 34 = .ok (.invokevirtual 63, 3) := by decide +kernel
theorem dX4_cutByLetters_37 : decode cX4_cutByLetters 37 = .ok (.invokevirtual 67, 3) := by decide +kernel
theorem dX4_cutByLetters_40 : decode cX4_cutByLetters 40 = .ok (.invokevirtual 24, 3) := by decide +kernel
theorem dX4_cutByLetters_43 : decode cX4_cutByLetters 43 = .ok (.iinc 4 1, 3) := by decide +kernel
theorem dX4_cutByLetters_46 : decode cX4_cutByLetters 46 = .ok (.goto (-33), 3) := by decide +kernel
theorem dX4_cutByLetters_49 : decode cX4_cutByLetters 49 = .ok (.iinc 3 1, 3) := by decide +kernel
theorem dX4_cutByLetters_52 : decode cX4_cutByLetters 52 = .ok (.goto (-50), 3) := by decide +kernel
theorem dX4_cutByLetters_55 : decode cX4_cutByLetters 55 = .ok (.return_, 1) := by decide +kernel
set_option maxRecDepth 20000 in
theorem ggX4_cutByNearCounts_X5_setAt : GoodIn wsX4_cutByNearCounts wsX5_setAt := goodIn_r _ [7, 8, 9, 10, 11, 6, 12, 13, 38, 39] (by decide +kernel) (by decide +kernel)
set_option maxRecDepth 20000 in
theorem gX4_cutByNearCounts_X5_setAt : GoodIn wsX4_cutByNearCounts (wsV RX4 63 RX5 yX5_setAt wsX5_setAt) := goodIn_app (goodIn_of _ (by decide +kernel)) ggX4_cutByNearCounts_X5_setAt
set_option maxRecDepth 20000 in
theorem ggX4_cutByNearCounts_J6_bitCount_0f7a4 : GoodIn wsX4_cutByNearCounts wsJ6_bitCount_0f7a4 := goodIn_r _ [17, 18, 19, 20] (by decide +kernel) (by decide +kernel)
set_option maxRecDepth 20000 in
theorem gX4_cutByNearCounts_J6_bitCount_0f7a4 : GoodIn wsX4_cutByNearCounts (va_wsS RX4 71 yJ6_bitCount_0f7a4 wsJ6_bitCount_0f7a4) := goodIn_app (goodIn_of _ (by decide +kernel)) ggX4_cutByNearCounts_J6_bitCount_0f7a4
set_option maxRecDepth 20000 in
theorem ggX4_cutByNearCounts_X6_itemsWithNearIn : GoodIn wsX4_cutByNearCounts wsX6_itemsWithNearIn := goodIn_r _ [25, 26, 27, 28, 15, 16, 17, 18, 19, 20, 40, 41, 42, 43, 44, 45, 46, 47] (by decide +kernel) (by decide +kernel)
set_option maxRecDepth 20000 in
theorem gX4_cutByNearCounts_X6_itemsWithNearIn : GoodIn wsX4_cutByNearCounts (wsV RX4 76 RX6 yX6_itemsWithNearIn wsX6_itemsWithNearIn) := goodIn_app (goodIn_of _ (by decide +kernel)) ggX4_cutByNearCounts_X6_itemsWithNearIn
set_option maxRecDepth 20000 in
theorem ggX4_cutByNearCounts_X5_cutBy : GoodIn wsX4_cutByNearCounts wsX5_cutBy := goodIn_r _ [32, 13, 8, 33, 34, 35, 6, 36, 38, 39] (by decide +kernel) (by decide +kernel)
set_option maxRecDepth 20000 in
theorem gX4_cutByNearCounts_X5_cutBy : GoodIn wsX4_cutByNearCounts (wsV RX4 24 RX5 yX5_cutBy wsX5_cutBy) := goodIn_app (goodIn_of _ (by decide +kernel)) ggX4_cutByNearCounts_X5_cutBy
theorem dX4_cutByNearCounts_0 : decode cX4_cutByNearCounts 0 = .ok (.iconst 0, 1) := by decide +kernel
theorem dX4_cutByNearCounts_1 : decode cX4_cutByNearCounts 1 = .ok (.istore_n 3, 1) := by decide +kernel
theorem dX4_cutByNearCounts_2 : decode cX4_cutByNearCounts 2 = .ok (.iload_n 3, 1) := by decide +kernel
theorem dX4_cutByNearCounts_3 : decode cX4_cutByNearCounts 3 = .ok (.aload_n 0, 1) := by decide +kernel
theorem dX4_cutByNearCounts_4 : decode cX4_cutByNearCounts 4 = .ok (.getfield 12, 3) := by decide +kernel
theorem dX4_cutByNearCounts_7 : decode cX4_cutByNearCounts 7 = .ok (.getfield 54, 3) := by decide +kernel
theorem dX4_cutByNearCounts_10 : decode cX4_cutByNearCounts 10 = .ok (.if_icmp .ge 54, 3) := by decide +kernel
theorem dX4_cutByNearCounts_13 : decode cX4_cutByNearCounts 13 = .ok (.aload_n 0, 1) := by decide +kernel
theorem dX4_cutByNearCounts_14 : decode cX4_cutByNearCounts 14 = .ok (.getfield 12, 3) := by decide +kernel
theorem dX4_cutByNearCounts_17 : decode cX4_cutByNearCounts 17 = .ok (.iload_n 3, 1) := by decide +kernel
theorem dX4_cutByNearCounts_18 : decode cX4_cutByNearCounts 18 = .ok (.invokevirtual 63, 3) := by decide +kernel
theorem dX4_cutByNearCounts_21 : decode cX4_cutByNearCounts 21 = .ok (.istore 4, 2) := by decide +kernel
theorem dX4_cutByNearCounts_23 : decode cX4_cutByNearCounts 23 = .ok (.iload 4, 2) := by decide +kernel
theorem dX4_cutByNearCounts_25 : decode cX4_cutByNearCounts 25 = .ok (.invokestatic 71, 3) := by decide +kernel
theorem dX4_cutByNearCounts_28 : decode cX4_cutByNearCounts 28 = .ok (.istore 5, 2) := by decide +kernel
theorem dX4_cutByNearCounts_30 : decode cX4_cutByNearCounts 30 = .ok (.iconst 1, 1) := by decide +kernel
theorem dX4_cutByNearCounts_31 : decode cX4_cutByNearCounts 31 = .ok (.istore 6, 2) := by decide +kernel
theorem dX4_cutByNearCounts_33 : decode cX4_cutByNearCounts 33 = .ok (.iload 6, 2) := by decide +kernel
theorem dX4_cutByNearCounts_35 : decode cX4_cutByNearCounts 35 = .ok (.iload 5, 2) := by decide +kernel
theorem dX4_cutByNearCounts_37 : decode cX4_cutByNearCounts 37 = .ok (.if_icmp .gt 21, 3) := by decide +kernel
theorem dX4_cutByNearCounts_40 : decode cX4_cutByNearCounts 40 = .ok (.aload_n 2, 1) := by decide +kernel
theorem dX4_cutByNearCounts_41 : decode cX4_cutByNearCounts 41 = .ok (.aload_n 1, 1) := by decide +kernel
theorem dX4_cutByNearCounts_42 : decode cX4_cutByNearCounts 42 = .ok (.iload 4, 2) := by decide +kernel
theorem dX4_cutByNearCounts_44 : decode cX4_cutByNearCounts 44 = .ok (.iload 6, 2) := by decide +kernel
theorem dX4_cutByNearCounts_46 : decode cX4_cutByNearCounts 46 = .ok (.invokevirtual 76, 3) := by decide +kernel
theorem dX4_cutByNearCounts_49 : decode cX4_cutByNearCounts 49 = .ok (.invokevirtual 24, 3) := by decide +kernel
theorem dX4_cutByNearCounts_52 : decode cX4_cutByNearCounts 52 = .ok (.iinc 6 1, 3) := by decide +kernel
theorem dX4_cutByNearCounts_55 : decode cX4_cutByNearCounts 55 = .ok (.goto (-22), 3) := by decide +kernel
theorem dX4_cutByNearCounts_58 : decode cX4_cutByNearCounts 58 = .ok (.iinc 3 1, 3) := by decide +kernel
theorem dX4_cutByNearCounts_61 : decode cX4_cutByNearCounts 61 = .ok (.goto (-59), 3) := by decide +kernel
theorem dX4_cutByNearCounts_64 : decode cX4_cutByNearCounts 64 = .ok (.return_, 1) := by decide +kernel
set_option maxRecDepth 20000 in
theorem ggX4_shortestWordApart_X6_all : GoodIn wsX4_shortestWordApart wsX6_all := goodIn_r _ [8, 9, 69, 70, 71, 72, 73, 74, 75, 76] (by decide +kernel) (by decide +kernel)
set_option maxRecDepth 20000 in
theorem gX4_shortestWordApart_X6_all : GoodIn wsX4_shortestWordApart (wsV RX4 79 RX6 yX6_all wsX6_all) := goodIn_app (goodIn_of _ (by decide +kernel)) ggX4_shortestWordApart_X6_all
set_option maxRecDepth 20000 in
theorem ggX4_shortestWordApart_X5_gather : GoodIn wsX4_shortestWordApart wsX5_gather := goodIn_r _ [14, 15, 16, 78, 79] (by decide +kernel) (by decide +kernel)
set_option maxRecDepth 20000 in
theorem gX4_shortestWordApart_X5_gather : GoodIn wsX4_shortestWordApart (wsV RX4 83 RX5 yX5_gather wsX5_gather) := goodIn_app (goodIn_of _ (by decide +kernel)) ggX4_shortestWordApart_X5_gather
set_option maxRecDepth 20000 in
theorem ggX4_shortestWordApart_X5_cutBy : GoodIn wsX4_shortestWordApart wsX5_cutBy := goodIn_r _ [20, 16, 15, 21, 22, 23, 13, 24, 78, 79] (by decide +kernel) (by decide +kernel)
set_option maxRecDepth 20000 in
theorem gX4_shortestWordApart_X5_cutBy : GoodIn wsX4_shortestWordApart (wsV RX4 24 RX5 yX5_cutBy wsX5_cutBy) := goodIn_app (goodIn_of _ (by decide +kernel)) ggX4_shortestWordApart_X5_cutBy
set_option maxRecDepth 20000 in
theorem ggX4_shortestWordApart_X5_placeOf : GoodIn wsX4_shortestWordApart wsX5_placeOf := goodIn_r _ [28, 16, 15, 78, 79] (by decide +kernel) (by decide +kernel)
set_option maxRecDepth 20000 in
theorem gX4_shortestWordApart_X5_placeOf : GoodIn wsX4_shortestWordApart (wsV RX4 86 RX5 yX5_placeOf wsX5_placeOf) := goodIn_app (goodIn_of _ (by decide +kernel)) ggX4_shortestWordApart_X5_placeOf
set_option maxRecDepth 20000 in
theorem ggX4_shortestWordApart_X5_copyFrom : GoodIn wsX4_shortestWordApart wsX5_copyFrom := goodIn_r _ [32, 15, 33, 34, 35, 36, 16, 78, 79] (by decide +kernel) (by decide +kernel)
set_option maxRecDepth 20000 in
theorem gX4_shortestWordApart_X5_copyFrom : GoodIn wsX4_shortestWordApart (wsV RX4 43 RX5 yX5_copyFrom wsX5_copyFrom) := goodIn_app (goodIn_of _ (by decide +kernel)) ggX4_shortestWordApart_X5_copyFrom
set_option maxRecDepth 20000 in
theorem ggX4_shortestWordApart_X4_cutByLetters : GoodIn wsX4_shortestWordApart wsX4_cutByLetters := goodIn_r _ [41, 42, 2, 3, 43, 44, 45, 13, 46, 15, 47, 48, 49, 50, 16, 51, 52, 53, 7, 54, 9, 55, 56, 57, 58, 59, 60, 61, 62, 63, 64, 65, 66, 67, 68, 17, 18, 19, 20, 21, 22, 23, 24, 69, 70, 71, 72, 73, 74, 75, 76, 77, 78, 79] (by decide +kernel) (by decide +kernel)
set_option maxRecDepth 20000 in
theorem gX4_shortestWordApart_X4_cutByLetters : GoodIn wsX4_shortestWordApart (wsV RX4 47 RX4 yX4_cutByLetters wsX4_cutByLetters) := goodIn_app (goodIn_of _ (by decide +kernel)) ggX4_shortestWordApart_X4_cutByLetters
theorem dX4_shortestWordApart_0 : decode cX4_shortestWordApart 0 = .ok (.aload_n 2, 1) := by decide +kernel
theorem dX4_shortestWordApart_1 : decode cX4_shortestWordApart 1 = .ok (.aload_n 1, 1) := by decide +kernel
theorem dX4_shortestWordApart_2 : decode cX4_shortestWordApart 2 = .ok (.invokevirtual 79, 3) := by decide +kernel
theorem dX4_shortestWordApart_5 : decode cX4_shortestWordApart 5 = .ok (.invokevirtual 83, 3) := by decide +kernel
theorem dX4_shortestWordApart_8 : decode cX4_shortestWordApart 8 = .ok (.aload_n 2, 1) := by decide +kernel
theorem dX4_shortestWordApart_9 : decode cX4_shortestWordApart 9 = .ok (.aload_n 1, 1) := by decide +kernel
theorem dX4_shortestWordApart_10 : decode cX4_shortestWordApart 10 = .ok (.getfield 18, 3) := by decide +kernel
theorem dX4_shortestWordApart_13 : decode cX4_shortestWordApart 13 = .ok (.invokevirtual 24, 3) := by decide +kernel
theorem dX4_shortestWordApart_16 : decode cX4_shortestWordApart 16 = .ok (.iconst 0, 1) := by decide +kernel
theorem dX4_shortestWordApart_17 : decode cX4_shortestWordApart 17 = .ok (.istore 5, 2) := by decide +kernel
theorem dX4_shortestWordApart_19 : decode cX4_shortestWordApart 19 = .ok (.iload 5, 2) := by decide +kernel
theorem dX4_shortestWordApart_21 : decode cX4_shortestWordApart 21 = .ok (.bipush 12, 2) := by decide +kernel
theorem dX4_shortestWordApart_23 : decode cX4_shortestWordApart 23 = .ok (.if_icmp .ge 57, 3) := by decide +kernel
theorem dX4_shortestWordApart_26 : decode cX4_shortestWordApart 26 = .ok (.aload_n 2, 1) := by decide +kernel
theorem dX4_shortestWordApart_27 : decode cX4_shortestWordApart 27 = .ok (.iload_n 3, 1) := by decide +kernel
theorem dX4_shortestWordApart_28 : decode cX4_shortestWordApart 28 = .ok (.invokevirtual 86, 3) := by decide +kernel
theorem dX4_shortestWordApart_31 : decode cX4_shortestWordApart 31 = .ok (.aload_n 2, 1) := by decide +kernel
theorem dX4_shortestWordApart_32 : decode cX4_shortestWordApart 32 = .ok (.iload 4, 2) := by decide +kernel
theorem dX4_shortestWordApart_34 : decode cX4_shortestWordApart 34 = .ok (.invokevirtual 86, 3) := by decide +kernel
theorem dX4_shortestWordApart_37 : decode cX4_shortestWordApart 37 = .ok (.if_icmp .eq 6, 3) := by decide +kernel
theorem dX4_shortestWordApart_40 : decode cX4_shortestWordApart 40 = .ok (.iload 5, 2) := by decide +kernel
theorem dX4_shortestWordApart_42 : decode cX4_shortestWordApart 42 = .ok (.ireturn, 1) := by decide +kernel
theorem dX4_shortestWordApart_43 : decode cX4_shortestWordApart 43 = .ok (.aload_n 0, 1) := by decide +kernel
theorem dX4_shortestWordApart_44 : decode cX4_shortestWordApart 44 = .ok (.getfield 12, 3) := by decide +kernel
theorem dX4_shortestWordApart_47 : decode cX4_shortestWordApart 47 = .ok (.aload_n 2, 1) := by decide +kernel
theorem dX4_shortestWordApart_48 : decode cX4_shortestWordApart 48 = .ok (.invokevirtual 43, 3) := by decide +kernel
theorem dX4_shortestWordApart_51 : decode cX4_shortestWordApart 51 = .ok (.aload_n 0, 1) := by decide +kernel
theorem dX4_shortestWordApart_52 : decode cX4_shortestWordApart 52 = .ok (.aload_n 1, 1) := by decide +kernel
theorem dX4_shortestWordApart_53 : decode cX4_shortestWordApart 53 = .ok (.aload_n 2, 1) := by decide +kernel
theorem dX4_shortestWordApart_54 : decode cX4_shortestWordApart 54 = .ok (.invokevirtual 47, 3) := by decide +kernel
end
section
theorem dX4_shortestWordApart_57 : decode cX4_shortestWordApart 57 = .ok (.aload_n 2, 1) := by decide +kernel
theorem dX4_shortestWordApart_58 : decode cX4_shortestWordApart 58 = .ok (.getfield 54, 3) := by decide +kernel
theorem dX4_shortestWordApart_61 : decode cX4_shortestWordApart 61 = .ok (.aload_n 0, 1) := by decide +kernel
theorem dX4_shortestWordApart_62 : decode cX4_shortestWordApart 62 = .ok (.getfield 12, 3) := by decide +kernel
theorem dX4_shortestWordApart_65 : decode cX4_shortestWordApart 65 = .ok (.getfield 54, 3) := by decide +kernel
theorem dX4_shortestWordApart_68 : decode cX4_shortestWordApart 68 = .ok (.if_icmp .ne 6, 3) := by decide +kernel
theorem dX4_shortestWordApart_71 : decode cX4_shortestWordApart 71 = .ok (.goto 9, 3) := by decide +kernel
theorem dX4_shortestWordApart_74 : decode cX4_shortestWordApart 74 = .ok (.iinc 5 1, 3) := by decide +kernel
theorem dX4_shortestWordApart_77 : decode cX4_shortestWordApart 77 = .ok (.goto (-58), 3) := by decide +kernel
theorem dX4_shortestWordApart_80 : decode cX4_shortestWordApart 80 = .ok (.iconst (-1), 1) := by decide +kernel
theorem dX4_shortestWordApart_81 : decode cX4_shortestWordApart 81 = .ok (.ireturn, 1) := by decide +kernel
theorem dX5_init_0 : decode cX5_init 0 = .ok (.aload_n 0, 1) := by decide +kernel
theorem dX5_init_1 : decode cX5_init 1 = .ok (.invokespecial 3, 3) := by decide +kernel
theorem dX5_init_4 : decode cX5_init 4 = .ok (.aload_n 0, 1) := by decide +kernel
theorem dX5_init_5 : decode cX5_init 5 = .ok (.bipush 12, 2) := by decide +kernel
theorem dX5_init_7 : decode cX5_init 7 = .ok (.newarray .int, 2) := by decide +kernel
theorem dX5_init_9 : decode cX5_init 9 = .ok (.putfield 9, 3) := by decide +kernel
theorem dX5_init_12 : decode cX5_init 12 = .ok (.aload_n 0, 1) := by decide +kernel
theorem dX5_init_13 : decode cX5_init 13 = .ok (.iconst 0, 1) := by decide +kernel
theorem dX5_init_14 : decode cX5_init 14 = .ok (.putfield 15, 3) := by decide +kernel
theorem dX5_init_17 : decode cX5_init 17 = .ok (.return_, 1) := by decide +kernel
theorem dX5_gather_0 : decode cX5_gather 0 = .ok (.aload_n 0, 1) := by decide +kernel
theorem dX5_gather_1 : decode cX5_gather 1 = .ok (.getfield 9, 3) := by decide +kernel
theorem dX5_gather_4 : decode cX5_gather 4 = .ok (.iconst 0, 1) := by decide +kernel
theorem dX5_gather_5 : decode cX5_gather 5 = .ok (.iload_n 1, 1) := by decide +kernel
theorem dX5_gather_6 : decode cX5_gather 6 = .ok (.iastore, 1) := by decide +kernel
theorem dX5_gather_7 : decode cX5_gather 7 = .ok (.aload_n 0, 1) := by decide +kernel
theorem dX5_gather_8 : decode cX5_gather 8 = .ok (.iconst 1, 1) := by decide +kernel
theorem dX5_gather_9 : decode cX5_gather 9 = .ok (.putfield 15, 3) := by decide +kernel
theorem dX5_gather_12 : decode cX5_gather 12 = .ok (.return_, 1) := by decide +kernel
theorem dX5_copyFrom_0 : decode cX5_copyFrom 0 = .ok (.aload_n 1, 1) := by decide +kernel
theorem dX5_copyFrom_1 : decode cX5_copyFrom 1 = .ok (.getfield 9, 3) := by decide +kernel
theorem dX5_copyFrom_4 : decode cX5_copyFrom 4 = .ok (.iconst 0, 1) := by decide +kernel
theorem dX5_copyFrom_5 : decode cX5_copyFrom 5 = .ok (.aload_n 0, 1) := by decide +kernel
theorem dX5_copyFrom_6 : decode cX5_copyFrom 6 = .ok (.getfield 9, 3) := by decide +kernel
theorem dX5_copyFrom_9 : decode cX5_copyFrom 9 = .ok (.iconst 0, 1) := by decide +kernel
theorem dX5_copyFrom_10 : decode cX5_copyFrom 10 = .ok (.bipush 12, 2) := by decide +kernel
theorem dX5_copyFrom_12 : decode cX5_copyFrom 12 = .ok (.invokestatic 19, 3) := by decide +kernel
theorem dX5_copyFrom_15 : decode cX5_copyFrom 15 = .ok (.aload_n 0, 1) := by decide +kernel
theorem dX5_copyFrom_16 : decode cX5_copyFrom 16 = .ok (.aload_n 1, 1) := by decide +kernel
theorem dX5_copyFrom_17 : decode cX5_copyFrom 17 = .ok (.getfield 15, 3) := by decide +kernel
theorem dX5_copyFrom_20 : decode cX5_copyFrom 20 = .ok (.putfield 15, 3) := by decide +kernel
theorem dX5_copyFrom_23 : decode cX5_copyFrom 23 = .ok (.return_, 1) := by decide +kernel
theorem dX5_hasPlace_0 : decode cX5_hasPlace 0 = .ok (.iload_n 1, 1) := by decide +kernel
theorem dX5_hasPlace_1 : decode cX5_hasPlace 1 = .ok (.ifCond .lt 15, 3) := by decide +kernel
theorem dX5_hasPlace_4 : decode cX5_hasPlace 4 = .ok (.iload_n 1, 1) := by decide +kernel
theorem dX5_hasPlace_5 : decode cX5_hasPlace 5 = .ok (.aload_n 0, 1) := by decide +kernel
theorem dX5_hasPlace_6 : decode cX5_hasPlace 6 = .ok (.getfield 15, 3) := by decide +kernel
theorem dX5_hasPlace_9 : decode cX5_hasPlace 9 = .ok (.if_icmp .ge 7, 3) := by decide +kernel
theorem dX5_hasPlace_12 : decode cX5_hasPlace 12 = .ok (.iconst 1, 1) := by decide +kernel
theorem dX5_hasPlace_13 : decode cX5_hasPlace 13 = .ok (.goto 4, 3) := by decide +kernel
theorem dX5_hasPlace_16 : decode cX5_hasPlace 16 = .ok (.iconst 0, 1) := by decide +kernel
theorem dX5_hasPlace_17 : decode cX5_hasPlace 17 = .ok (.ireturn, 1) := by decide +kernel
set_option maxRecDepth 20000 in
theorem ggX5_setAt_X5_hasPlace : GoodIn wsX5_setAt wsX5_hasPlace := goodIn_r _ [6, 7, 8, 9] (by decide +kernel) (by decide +kernel)
set_option maxRecDepth 20000 in
theorem gX5_setAt_X5_hasPlace : GoodIn wsX5_setAt (wsV RX5 25 RX5 yX5_hasPlace wsX5_hasPlace) := goodIn_app (goodIn_of _ (by decide +kernel)) ggX5_setAt_X5_hasPlace
theorem dX5_setAt_0 : decode cX5_setAt 0 = .ok (.aload_n 0, 1) := by decide +kernel
theorem dX5_setAt_1 : decode cX5_setAt 1 = .ok (.iload_n 1, 1) := by decide +kernel
theorem dX5_setAt_2 : decode cX5_setAt 2 = .ok (.invokevirtual 25, 3) := by decide +kernel
theorem dX5_setAt_5 : decode cX5_setAt 5 = .ok (.ifCond .eq 12, 3) := by decide +kernel
theorem dX5_setAt_8 : decode cX5_setAt 8 = .ok (.aload_n 0, 1) := by decide +kernel
theorem dX5_setAt_9 : decode cX5_setAt 9 = .ok (.getfield 9, 3) := by decide +kernel
theorem dX5_setAt_12 : decode cX5_setAt 12 = .ok (.iload_n 1, 1) := by decide +kernel
theorem dX5_setAt_13 : decode cX5_setAt 13 = .ok (.iaload, 1) := by decide +kernel
theorem dX5_setAt_14 : decode cX5_setAt 14 = .ok (.goto 4, 3) := by decide +kernel
theorem dX5_setAt_17 : decode cX5_setAt 17 = .ok (.iconst 0, 1) := by decide +kernel
theorem dX5_setAt_18 : decode cX5_setAt 18 = .ok (.ireturn, 1) := by decide +kernel
theorem dX5_placeOf_0 : decode cX5_placeOf 0 = .ok (.iconst 0, 1) := by decide +kernel
theorem dX5_placeOf_1 : decode cX5_placeOf 1 = .ok (.istore_n 2, 1) := by decide +kernel
theorem dX5_placeOf_2 : decode cX5_placeOf 2 = .ok (.iload_n 2, 1) := by decide +kernel
theorem dX5_placeOf_3 : decode cX5_placeOf 3 = .ok (.aload_n 0, 1) := by decide +kernel
theorem dX5_placeOf_4 : decode cX5_placeOf 4 = .ok (.getfield 15, 3) := by decide +kernel
theorem dX5_placeOf_7 : decode cX5_placeOf 7 = .ok (.if_icmp .ge 24, 3) := by decide +kernel
theorem dX5_placeOf_10 : decode cX5_placeOf 10 = .ok (.aload_n 0, 1) := by decide +kernel
theorem dX5_placeOf_11 : decode cX5_placeOf 11 = .ok (.getfield 9, 3) := by decide +kernel
theorem dX5_placeOf_14 : decode cX5_placeOf 14 = .ok (.iload_n 2, 1) := by decide +kernel
theorem dX5_placeOf_15 : decode cX5_placeOf 15 = .ok (.iaload, 1) := by decide +kernel
theorem dX5_placeOf_16 : decode cX5_placeOf 16 = .ok (.iload_n 1, 1) := by decide +kernel
theorem dX5_placeOf_17 : decode cX5_placeOf 17 = .ok (.ishr, 1) := by decide +kernel
theorem dX5_placeOf_18 : decode cX5_placeOf 18 = .ok (.iconst 1, 1) := by decide +kernel
theorem dX5_placeOf_19 : decode cX5_placeOf 19 = .ok (.iand, 1) := by decide +kernel
theorem dX5_placeOf_20 : decode cX5_placeOf 20 = .ok (.ifCond .eq 5, 3) := by decide +kernel
theorem dX5_placeOf_23 : decode cX5_placeOf 23 = .ok (.iload_n 2, 1) := by decide +kernel
theorem dX5_placeOf_24 : decode cX5_placeOf 24 = .ok (.ireturn, 1) := by decide +kernel
theorem dX5_placeOf_25 : decode cX5_placeOf 25 = .ok (.iinc 2 1, 3) := by decide +kernel
theorem dX5_placeOf_28 : decode cX5_placeOf 28 = .ok (.goto (-26), 3) := by decide +kernel
theorem dX5_placeOf_31 : decode cX5_placeOf 31 = .ok (.iconst (-1), 1) := by decide +kernel
theorem dX5_placeOf_32 : decode cX5_placeOf 32 = .ok (.ireturn, 1) := by decide +kernel
set_option maxRecDepth 20000 in
theorem ggX5_cutBy_X5_openPlace : GoodIn wsX5_cutBy wsX5_openPlace := goodIn_r _ [7, 1, 2, 8, 9] (by decide +kernel) (by decide +kernel)
set_option maxRecDepth 20000 in
theorem gX5_cutBy_X5_openPlace : GoodIn wsX5_cutBy (wsV RX5 29 RX5 yX5_openPlace wsX5_openPlace) := goodIn_app (goodIn_of _ (by decide +kernel)) ggX5_cutBy_X5_openPlace
theorem dX5_cutBy_0 : decode cX5_cutBy 0 = .ok (.aload_n 0, 1) := by decide +kernel
theorem dX5_cutBy_1 : decode cX5_cutBy 1 = .ok (.getfield 15, 3) := by decide +kernel
theorem dX5_cutBy_4 : decode cX5_cutBy 4 = .ok (.iconst 1, 1) := by decide +kernel
theorem dX5_cutBy_5 : decode cX5_cutBy 5 = .ok (.isub, 1) := by decide +kernel
theorem dX5_cutBy_6 : decode cX5_cutBy 6 = .ok (.istore_n 2, 1) := by decide +kernel
theorem dX5_cutBy_7 : decode cX5_cutBy 7 = .ok (.iload_n 2, 1) := by decide +kernel
theorem dX5_cutBy_8 : decode cX5_cutBy 8 = .ok (.ifCond .lt 70, 3) := by decide +kernel
theorem dX5_cutBy_11 : decode cX5_cutBy 11 = .ok (.aload_n 0, 1) := by decide +kernel
theorem dX5_cutBy_12 : decode cX5_cutBy 12 = .ok (.getfield 9, 3) := by decide +kernel
theorem dX5_cutBy_15 : decode cX5_cutBy 15 = .ok (.iload_n 2, 1) := by decide +kernel
theorem dX5_cutBy_16 : decode cX5_cutBy 16 = .ok (.iaload, 1) := by decide +kernel
theorem dX5_cutBy_17 : decode cX5_cutBy 17 = .ok (.iload_n 1, 1) := by decide +kernel
theorem dX5_cutBy_18 : decode cX5_cutBy 18 = .ok (.iand, 1) := by decide +kernel
theorem dX5_cutBy_19 : decode cX5_cutBy 19 = .ok (.istore_n 3, 1) := by decide +kernel
theorem dX5_cutBy_20 : decode cX5_cutBy 20 = .ok (.aload_n 0, 1) := by decide +kernel
theorem dX5_cutBy_21 : decode cX5_cutBy 21 = .ok (.getfield 9, 3) := by decide +kernel
theorem dX5_cutBy_24 : decode cX5_cutBy 24 = .ok (.iload_n 2, 1) := by decide +kernel
theorem dX5_cutBy_25 : decode cX5_cutBy 25 = .ok (.iaload, 1) := by decide +kernel
theorem dX5_cutBy_26 : decode cX5_cutBy 26 = .ok (.iload_n 1, 1) := by decide +kernel
theorem dX5_cutBy_27 : decode cX5_cutBy 27 = .ok (.iconst (-1), 1) := by decide +kernel
theorem dX5_cutBy_28 : decode cX5_cutBy 28 = .ok (.ixor, 1) := by decide +kernel
theorem dX5_cutBy_29 : decode cX5_cutBy 29 = .ok (.iand, 1) := by decide +kernel
theorem dX5_cutBy_30 : decode cX5_cutBy 30 = .ok (.istore 4, 2) := by decide +kernel
theorem dX5_cutBy_32 : decode cX5_cutBy 32 = .ok (.iload_n 3, 1) := by decide +kernel
theorem dX5_cutBy_33 : decode cX5_cutBy 33 = .ok (.ifCond .eq 39, 3) := by decide +kernel
theorem dX5_cutBy_36 : decode cX5_cutBy 36 = .ok (.iload 4, 2) := by decide +kernel
theorem dX5_cutBy_38 : decode cX5_cutBy 38 = .ok (.ifCond .eq 34, 3) := by decide +kernel
theorem dX5_cutBy_41 : decode cX5_cutBy 41 = .ok (.aload_n 0, 1) := by decide +kernel
theorem dX5_cutBy_42 : decode cX5_cutBy 42 = .ok (.getfield 15, 3) := by decide +kernel
theorem dX5_cutBy_45 : decode cX5_cutBy 45 = .ok (.bipush 12, 2) := by decide +kernel
theorem dX5_cutBy_47 : decode cX5_cutBy 47 = .ok (.if_icmp .ge 25, 3) := by decide +kernel
theorem dX5_cutBy_50 : decode cX5_cutBy 50 = .ok (.aload_n 0, 1) := by decide +kernel
theorem dX5_cutBy_51 : decode cX5_cutBy 51 = .ok (.iload_n 2, 1) := by decide +kernel
theorem dX5_cutBy_52 : decode cX5_cutBy 52 = .ok (.invokevirtual 29, 3) := by decide +kernel
theorem dX5_cutBy_55 : decode cX5_cutBy 55 = .ok (.aload_n 0, 1) := by decide +kernel
theorem dX5_cutBy_56 : decode cX5_cutBy 56 = .ok (.getfield 9, 3) := by decide +kernel
theorem dX5_cutBy_59 : decode cX5_cutBy 59 = .ok (.iload_n 2, 1) := by decide +kernel
theorem dX5_cutBy_60 : decode cX5_cutBy 60 = .ok (.iload_n 3, 1) := by decide +kernel
theorem dX5_cutBy_61 : decode cX5_cutBy 61 = .ok (.iastore, 1) := by decide +kernel
theorem dX5_cutBy_62 : decode cX5_cutBy 62 = .ok (.aload_n 0, 1) := by decide +kernel
theorem dX5_cutBy_63 : decode cX5_cutBy 63 = .ok (.getfield 9, 3) := by decide +kernel
theorem dX5_cutBy_66 : decode cX5_cutBy 66 = .ok (.iload_n 2, 1) := by decide +kernel
theorem dX5_cutBy_67 : decode cX5_cutBy 67 = .ok (.iconst 1, 1) := by decide +kernel
theorem dX5_cutBy_68 : decode cX5_cutBy 68 = .ok (.iadd, 1) := by decide +kernel
theorem dX5_cutBy_69 : decode cX5_cutBy 69 = .ok (.iload 4, 2) := by decide +kernel
theorem dX5_cutBy_71 : decode cX5_cutBy 71 = .ok (.iastore, 1) := by decide +kernel
theorem dX5_cutBy_72 : decode cX5_cutBy 72 = .ok (.iinc 2 (-1), 3) := by decide +kernel
theorem dX5_cutBy_75 : decode cX5_cutBy 75 = .ok (.goto (-68), 3) := by decide +kernel
theorem dX5_cutBy_78 : decode cX5_cutBy 78 = .ok (.return_, 1) := by decide +kernel
theorem dX5_openPlace_0 : decode cX5_openPlace 0 = .ok (.aload_n 0, 1) := by decide +kernel
theorem dX5_openPlace_1 : decode cX5_openPlace 1 = .ok (.getfield 15, 3) := by decide +kernel
theorem dX5_openPlace_4 : decode cX5_openPlace 4 = .ok (.istore_n 2, 1) := by decide +kernel
theorem dX5_openPlace_5 : decode cX5_openPlace 5 = .ok (.iload_n 2, 1) := by decide +kernel
theorem dX5_openPlace_6 : decode cX5_openPlace 6 = .ok (.iload_n 1, 1) := by decide +kernel
theorem dX5_openPlace_7 : decode cX5_openPlace 7 = .ok (.if_icmp .le 23, 3) := by decide +kernel
theorem dX5_openPlace_10 : decode cX5_openPlace 10 = .ok (.aload_n 0, 1) := by decide +kernel
theorem dX5_openPlace_11 : decode cX5_openPlace 11 = .ok (.getfield 9, 3) := by decide +kernel
theorem dX5_openPlace_14 : decode cX5_openPlace 14 = .ok (.iload_n 2, 1) := by decide +kernel
theorem dX5_openPlace_15 : decode cX5_openPlace 15 = .ok (.aload_n 0, 1) := by decide +kernel
theorem dX5_openPlace_16 : decode cX5_openPlace 16 = .ok (.getfield 9, 3) := by decide +kernel
theorem dX5_openPlace_19 : decode cX5_openPlace 19 = .ok (.iload_n 2, 1) := by decide +kernel
theorem dX5_openPlace_20 : decode cX5_openPlace 20 = .ok (.iconst 1, 1) := by decide +kernel
theorem dX5_openPlace_21 : decode cX5_openPlace 21 = .ok (.isub, 1) := by decide +kernel
theorem dX5_openPlace_22 : decode cX5_openPlace 22 = .ok (.iaload, 1) := by decide +kernel
theorem dX5_openPlace_23 : decode cX5_openPlace 23 = .ok (.iastore, 1) := by decide +kernel
theorem dX5_openPlace_24 : decode cX5_openPlace 24 = .ok (.iinc 2 (-1), 3) := by decide +kernel
theorem dX5_openPlace_27 : decode cX5_openPlace 27 = .ok (.goto (-22), 3) := by decide +kernel
theorem dX5_openPlace_30 : decode cX5_openPlace 30 = .ok (.aload_n 0, 1) := by decide +kernel
theorem dX5_openPlace_31 : decode cX5_openPlace 31 = .ok (.dup, 1) := by decide +kernel
theorem dX5_openPlace_32 : decode cX5_openPlace 32 = .ok (.getfield 15, 3) := by decide +kernel
theorem dX5_openPlace_35 : decode cX5_openPlace 35 = .ok (.iconst 1, 1) := by decide +kernel
theorem dX5_openPlace_36 : decode cX5_openPlace 36 = .ok (.iadd, 1) := by decide +kernel
theorem dX5_openPlace_37 : decode cX5_openPlace 37 = .ok (.putfield 15, 3) := by decide +kernel
theorem dX5_openPlace_40 : decode cX5_openPlace 40 = .ok (.return_, 1) := by decide +kernel
theorem dX5_closePlace_0 : decode cX5_closePlace 0 = .ok (.aload_n 0, 1) := by decide +kernel
theorem dX5_closePlace_1 : decode cX5_closePlace 1 = .ok (.dup, 1) := by decide +kernel
theorem dX5_closePlace_2 : decode cX5_closePlace 2 = .ok (.getfield 15, 3) := by decide +kernel
theorem dX5_closePlace_5 : decode cX5_closePlace 5 = .ok (.iconst 1, 1) := by decide +kernel
theorem dX5_closePlace_6 : decode cX5_closePlace 6 = .ok (.isub, 1) := by decide +kernel
theorem dX5_closePlace_7 : decode cX5_closePlace 7 = .ok (.putfield 15, 3) := by decide +kernel
theorem dX5_closePlace_10 : decode cX5_closePlace 10 = .ok (.iload_n 1, 1) := by decide +kernel
theorem dX5_closePlace_11 : decode cX5_closePlace 11 = .ok (.istore_n 2, 1) := by decide +kernel
theorem dX5_closePlace_12 : decode cX5_closePlace 12 = .ok (.iload_n 2, 1) := by decide +kernel
theorem dX5_closePlace_13 : decode cX5_closePlace 13 = .ok (.aload_n 0, 1) := by decide +kernel
theorem dX5_closePlace_14 : decode cX5_closePlace 14 = .ok (.getfield 15, 3) := by decide +kernel
theorem dX5_closePlace_17 : decode cX5_closePlace 17 = .ok (.if_icmp .ge 23, 3) := by decide +kernel
theorem dX5_closePlace_20 : decode cX5_closePlace 20 = .ok (.aload_n 0, 1) := by decide +kernel
theorem dX5_closePlace_21 : decode cX5_closePlace 21 = .ok (.getfield 9, 3) := by decide +kernel
theorem dX5_closePlace_24 : decode cX5_closePlace 24 = .ok (.iload_n 2, 1) := by decide +kernel
theorem dX5_closePlace_25 : decode cX5_closePlace 25 = .ok (.aload_n 0, 1) := by decide +kernel
theorem dX5_closePlace_26 : decode cX5_closePlace 26 = .ok (.getfield 9, 3) := by decide +kernel
theorem dX5_closePlace_29 : decode cX5_closePlace 29 = .ok (.iload_n 2, 1) := by decide +kernel
theorem dX5_closePlace_30 : decode cX5_closePlace 30 = .ok (.iconst 1, 1) := by decide +kernel
theorem dX5_closePlace_31 : decode cX5_closePlace 31 = .ok (.iadd, 1) := by decide +kernel
theorem dX5_closePlace_32 : decode cX5_closePlace 32 = .ok (.iaload, 1) := by decide +kernel
theorem dX5_closePlace_33 : decode cX5_closePlace 33 = .ok (.iastore, 1) := by decide +kernel
theorem dX5_closePlace_34 : decode cX5_closePlace 34 = .ok (.iinc 2 1, 3) := by decide +kernel
theorem dX5_closePlace_37 : decode cX5_closePlace 37 = .ok (.goto (-25), 3) := by decide +kernel
theorem dX5_closePlace_40 : decode cX5_closePlace 40 = .ok (.return_, 1) := by decide +kernel
set_option maxRecDepth 20000 in
theorem ggX5_mergeWithNext_X5_hasPlace : GoodIn wsX5_mergeWithNext wsX5_hasPlace := goodIn_r _ [7, 1, 12, 13] (by decide +kernel) (by decide +kernel)
set_option maxRecDepth 20000 in
theorem gX5_mergeWithNext_X5_hasPlace : GoodIn wsX5_mergeWithNext (wsV RX5 25 RX5 yX5_hasPlace wsX5_hasPlace) := goodIn_app (goodIn_of _ (by decide +kernel)) ggX5_mergeWithNext_X5_hasPlace
set_option maxRecDepth 20000 in
theorem ggX5_mergeWithNext_X5_closePlace : GoodIn wsX5_mergeWithNext wsX5_closePlace := goodIn_r _ [11, 1, 2, 12, 13] (by decide +kernel) (by decide +kernel)
set_option maxRecDepth 20000 in
theorem gX5_mergeWithNext_X5_closePlace : GoodIn wsX5_mergeWithNext (wsV RX5 33 RX5 yX5_closePlace wsX5_closePlace) := goodIn_app (goodIn_of _ (by decide +kernel)) ggX5_mergeWithNext_X5_closePlace
theorem dX5_mergeWithNext_0 : decode cX5_mergeWithNext 0 = .ok (.aload_n 0, 1) := by decide +kernel
theorem dX5_mergeWithNext_1 : decode cX5_mergeWithNext 1 = .ok (.iload_n 1, 1) := by decide +kernel
theorem dX5_mergeWithNext_2 : decode cX5_mergeWithNext 2 = .ok (.invokevirtual 25, 3) := by decide +kernel
theorem dX5_mergeWithNext_5 : decode cX5_mergeWithNext 5 = .ok (.ifCond .eq 41, 3) := by decide +kernel
theorem dX5_mergeWithNext_8 : decode cX5_mergeWithNext 8 = .ok (.iload_n 1, 1) := by decide +kernel
theorem dX5_mergeWithNext_9 : decode cX5_mergeWithNext 9 = .ok (.aload_n 0, 1) := by decide +kernel
theorem dX5_mergeWithNext_10 : decode cX5_mergeWithNext 10 = .ok (.getfield 15, 3) := by decide +kernel
theorem dX5_mergeWithNext_13 : decode cX5_mergeWithNext 13 = .ok (.iconst 1, 1) := by decide +kernel
theorem dX5_mergeWithNext_14 : decode cX5_mergeWithNext 14 = .ok (.isub, 1) := by decide +kernel
theorem dX5_mergeWithNext_15 : decode cX5_mergeWithNext 15 = .ok (.if_icmp .ge 31, 3) := by decide +kernel
theorem dX5_mergeWithNext_18 : decode cX5_mergeWithNext 18 = .ok (.aload_n 0, 1) := by decide +kernel
theorem dX5_mergeWithNext_19 : decode cX5_mergeWithNext 19 = .ok (.getfield 9, 3) := by decide +kernel
theorem dX5_mergeWithNext_22 : decode cX5_mergeWithNext 22 = .ok (.iload_n 1, 1) := by decide +kernel
theorem dX5_mergeWithNext_23 : decode cX5_mergeWithNext 23 = .ok (.iaload, 1) := by decide +kernel
theorem dX5_mergeWithNext_24 : decode cX5_mergeWithNext 24 = .ok (.aload_n 0, 1) := by decide +kernel
theorem dX5_mergeWithNext_25 : decode cX5_mergeWithNext 25 = .ok (.getfield 9, 3) := by decide +kernel
theorem dX5_mergeWithNext_28 : decode cX5_mergeWithNext 28 = .ok (.iload_n 1, 1) := by decide +kernel
theorem dX5_mergeWithNext_29 : decode cX5_mergeWithNext 29 = .ok (.iconst 1, 1) := by decide +kernel
theorem dX5_mergeWithNext_30 : decode cX5_mergeWithNext 30 = .ok (.iadd, 1) := by decide +kernel
theorem dX5_mergeWithNext_31 : decode cX5_mergeWithNext 31 = .ok (.iaload, 1) := by decide +kernel
theorem dX5_mergeWithNext_32 : decode cX5_mergeWithNext 32 = .ok (.ior, 1) := by decide +kernel
theorem dX5_mergeWithNext_33 : decode cX5_mergeWithNext 33 = .ok (.istore_n 2, 1) := by decide +kernel
theorem dX5_mergeWithNext_34 : decode cX5_mergeWithNext 34 = .ok (.aload_n 0, 1) := by decide +kernel
theorem dX5_mergeWithNext_35 : decode cX5_mergeWithNext 35 = .ok (.iload_n 1, 1) := by decide +kernel
theorem dX5_mergeWithNext_36 : decode cX5_mergeWithNext 36 = .ok (.invokevirtual 33, 3) := by decide +kernel
theorem dX5_mergeWithNext_39 : decode cX5_mergeWithNext 39 = .ok (.aload_n 0, 1) := by decide +kernel
theorem dX5_mergeWithNext_40 : decode cX5_mergeWithNext 40 = .ok (.getfield 9, 3) := by decide +kernel
theorem dX5_mergeWithNext_43 : decode cX5_mergeWithNext 43 = .ok (.iload_n 1, 1) := by decide +kernel
theorem dX5_mergeWithNext_44 : decode cX5_mergeWithNext 44 = .ok (.iload_n 2, 1) := by decide +kernel
theorem dX5_mergeWithNext_45 : decode cX5_mergeWithNext 45 = .ok (.iastore, 1) := by decide +kernel
theorem dX5_mergeWithNext_46 : decode cX5_mergeWithNext 46 = .ok (.return_, 1) := by decide +kernel
set_option maxRecDepth 20000 in
theorem ggX5_sortByLeast_X5_least : GoodIn wsX5_sortByLeast wsX5_least := goodIn_r _ [6, 7, 8, 9, 10, 11] (by decide +kernel) (by decide +kernel)
set_option maxRecDepth 20000 in
theorem gX5_sortByLeast_X5_least : GoodIn wsX5_sortByLeast (va_wsS RX5 36 yX5_least wsX5_least) := goodIn_app (goodIn_of _ (by decide +kernel)) ggX5_sortByLeast_X5_least
theorem dX5_sortByLeast_0 : decode cX5_sortByLeast 0 = .ok (.iconst 1, 1) := by decide +kernel
theorem dX5_sortByLeast_1 : decode cX5_sortByLeast 1 = .ok (.istore_n 1, 1) := by decide +kernel
theorem dX5_sortByLeast_2 : decode cX5_sortByLeast 2 = .ok (.iload_n 1, 1) := by decide +kernel
theorem dX5_sortByLeast_3 : decode cX5_sortByLeast 3 = .ok (.aload_n 0, 1) := by decide +kernel
theorem dX5_sortByLeast_4 : decode cX5_sortByLeast 4 = .ok (.getfield 15, 3) := by decide +kernel
theorem dX5_sortByLeast_7 : decode cX5_sortByLeast 7 = .ok (.if_icmp .ge 67, 3) := by decide +kernel
theorem dX5_sortByLeast_10 : decode cX5_sortByLeast 10 = .ok (.aload_n 0, 1) := by decide +kernel
theorem dX5_sortByLeast_11 : decode cX5_sortByLeast 11 = .ok (.getfield 9, 3) := by decide +kernel
theorem dX5_sortByLeast_14 : decode cX5_sortByLeast 14 = .ok (.iload_n 1, 1) := by decide +kernel
theorem dX5_sortByLeast_15 : decode cX5_sortByLeast 15 = .ok (.iaload, 1) := by decide +kernel
theorem dX5_sortByLeast_16 : decode cX5_sortByLeast 16 = .ok (.istore_n 2, 1) := by decide +kernel
theorem dX5_sortByLeast_17 : decode cX5_sortByLeast 17 = .ok (.iload_n 1, 1) := by decide +kernel
theorem dX5_sortByLeast_18 : decode cX5_sortByLeast 18 = .ok (.istore_n 3, 1) := by decide +kernel
theorem dX5_sortByLeast_19 : decode cX5_sortByLeast 19 = .ok (.iload_n 3, 1) := by decide +kernel
theorem dX5_sortByLeast_20 : decode cX5_sortByLeast 20 = .ok (.ifCond .le 41, 3) := by decide +kernel
theorem dX5_sortByLeast_23 : decode cX5_sortByLeast 23 = .ok (.aload_n 0, 1) := by decide +kernel
theorem dX5_sortByLeast_24 : decode cX5_sortByLeast 24 = .ok (.getfield 9, 3) := by decide +kernel
theorem dX5_sortByLeast_27 : decode cX5_sortByLeast 27 = .ok (.iload_n 3, 1) := by decide +kernel
theorem dX5_sortByLeast_28 : decode cX5_sortByLeast 28 = .ok (.iconst 1, 1) := by decide +kernel
theorem dX5_sortByLeast_29 : decode cX5_sortByLeast 29 = .ok (.isub, 1) := by decide +kernel
theorem dX5_sortByLeast_30 : decode cX5_sortByLeast 30 = .ok (.iaload, 1) := by decide +kernel
theorem dX5_sortByLeast_31 : decode cX5_sortByLeast 31 = .ok (.invokestatic 36, 3) := by decide +kernel
theorem dX5_sortByLeast_34 : decode cX5_sortByLeast 34 = .ok (.iload_n 2, 1) := by decide +kernel
theorem dX5_sortByLeast_35 : decode cX5_sortByLeast 35 = .ok (.invokestatic 36, 3) := by decide +kernel
theorem dX5_sortByLeast_38 : decode cX5_sortByLeast 38 = .ok (.if_icmp .le 23, 3) := by decide +kernel
theorem dX5_sortByLeast_41 : decode cX5_sortByLeast 41 = .ok (.aload_n 0, 1) := by decide +kernel
theorem dX5_sortByLeast_42 : decode cX5_sortByLeast 42 = .ok (.getfield 9, 3) := by decide +kernel
theorem dX5_sortByLeast_45 : decode cX5_sortByLeast 45 = .ok (.iload_n 3, 1) := by decide +kernel
theorem dX5_sortByLeast_46 : decode cX5_sortByLeast 46 = .ok (.aload_n 0, 1) := by decide +kernel
theorem dX5_sortByLeast_47 : decode cX5_sortByLeast 47 = .ok (.getfield 9, 3) := by decide +kernel
theorem dX5_sortByLeast_50 : decode cX5_sortByLeast 50 = .ok (.iload_n 3, 1) := by decide +kernel
theorem dX5_sortByLeast_51 : decode cX5_sortByLeast 51 = .ok (.iconst 1, 1) := by decide +kernel
theorem dX5_sortByLeast_52 : decode cX5_sortByLeast 52 = .ok (.isub, 1) := by decide +kernel
theorem dX5_sortByLeast_53 : decode cX5_sortByLeast 53 = .ok (.iaload, 1) := by decide +kernel
theorem dX5_sortByLeast_54 : decode cX5_sortByLeast 54 = .ok (.iastore, 1) := by decide +kernel
theorem dX5_sortByLeast_55 : decode cX5_sortByLeast 55 = .ok (.iinc 3 (-1), 3) := by decide +kernel
theorem dX5_sortByLeast_58 : decode cX5_sortByLeast 58 = .ok (.goto (-39), 3) := by decide +kernel
theorem dX5_sortByLeast_61 : decode cX5_sortByLeast 61 = .ok (.aload_n 0, 1) := by decide +kernel
theorem dX5_sortByLeast_62 : decode cX5_sortByLeast 62 = .ok (.getfield 9, 3) := by decide +kernel
theorem dX5_sortByLeast_65 : decode cX5_sortByLeast 65 = .ok (.iload_n 3, 1) := by decide +kernel
theorem dX5_sortByLeast_66 : decode cX5_sortByLeast 66 = .ok (.iload_n 2, 1) := by decide +kernel
theorem dX5_sortByLeast_67 : decode cX5_sortByLeast 67 = .ok (.iastore, 1) := by decide +kernel
theorem dX5_sortByLeast_68 : decode cX5_sortByLeast 68 = .ok (.iinc 1 1, 3) := by decide +kernel
theorem dX5_sortByLeast_71 : decode cX5_sortByLeast 71 = .ok (.goto (-69), 3) := by decide +kernel
theorem dX5_sortByLeast_74 : decode cX5_sortByLeast 74 = .ok (.return_, 1) := by decide +kernel
set_option maxRecDepth 20000 in
theorem ggX5_least_J6_numberOfTrailingZeros_0f7a4 : GoodIn wsX5_least wsJ6_numberOfTrailingZeros_0f7a4 := goodIn_r _ [4, 5] (by decide +kernel) (by decide +kernel)
set_option maxRecDepth 20000 in
theorem gX5_least_J6_numberOfTrailingZeros_0f7a4 : GoodIn wsX5_least (va_wsS RX5 40 yJ6_numberOfTrailingZeros_0f7a4 wsJ6_numberOfTrailingZeros_0f7a4) := goodIn_app (goodIn_of _ (by decide +kernel)) ggX5_least_J6_numberOfTrailingZeros_0f7a4
theorem dX5_least_0 : decode cX5_least 0 = .ok (.iload_n 0, 1) := by decide +kernel
theorem dX5_least_1 : decode cX5_least 1 = .ok (.invokestatic 40, 3) := by decide +kernel
theorem dX5_least_4 : decode cX5_least 4 = .ok (.ireturn, 1) := by decide +kernel
set_option maxRecDepth 20000 in
theorem ggX5_differingFrom_X5_setAt : GoodIn wsX5_differingFrom wsX5_setAt := goodIn_r _ [7, 2, 8, 9, 10, 6, 11, 1, 12, 13] (by decide +kernel) (by decide +kernel)
set_option maxRecDepth 20000 in
theorem gX5_differingFrom_X5_setAt : GoodIn wsX5_differingFrom (wsV RX5 45 RX5 yX5_setAt wsX5_setAt) := goodIn_app (goodIn_of _ (by decide +kernel)) ggX5_differingFrom_X5_setAt
theorem dX5_differingFrom_0 : decode cX5_differingFrom 0 = .ok (.iconst 0, 1) := by decide +kernel
theorem dX5_differingFrom_1 : decode cX5_differingFrom 1 = .ok (.istore_n 2, 1) := by decide +kernel
theorem dX5_differingFrom_2 : decode cX5_differingFrom 2 = .ok (.iconst 0, 1) := by decide +kernel
theorem dX5_differingFrom_3 : decode cX5_differingFrom 3 = .ok (.istore_n 3, 1) := by decide +kernel
theorem dX5_differingFrom_4 : decode cX5_differingFrom 4 = .ok (.iload_n 3, 1) := by decide +kernel
theorem dX5_differingFrom_5 : decode cX5_differingFrom 5 = .ok (.aload_n 0, 1) := by decide +kernel
theorem dX5_differingFrom_6 : decode cX5_differingFrom 6 = .ok (.getfield 15, 3) := by decide +kernel
theorem dX5_differingFrom_9 : decode cX5_differingFrom 9 = .ok (.if_icmp .ge 26, 3) := by decide +kernel
theorem dX5_differingFrom_12 : decode cX5_differingFrom 12 = .ok (.aload_n 0, 1) := by decide +kernel
theorem dX5_differingFrom_13 : decode cX5_differingFrom 13 = .ok (.getfield 9, 3) := by decide +kernel
theorem dX5_differingFrom_16 : decode cX5_differingFrom 16 = .ok (.iload_n 3, 1) := by decide +kernel
theorem dX5_differingFrom_17 : decode cX5_differingFrom 17 = .ok (.iaload, 1) := by decide +kernel
theorem dX5_differingFrom_18 : decode cX5_differingFrom 18 = .ok (.aload_n 1, 1) := by decide +kernel
theorem dX5_differingFrom_19 : decode cX5_differingFrom 19 = .ok (.iload_n 3, 1) := by decide +kernel
theorem dX5_differingFrom_20 : decode cX5_differingFrom 20 = .ok (.invokevirtual 45, 3) := by decide +kernel
theorem dX5_differingFrom_23 : decode cX5_differingFrom 23 = .ok (.if_icmp .eq 6, 3) := by decide +kernel
theorem dX5_differingFrom_26 : decode cX5_differingFrom 26 = .ok (.iinc 2 1, 3) := by decide +kernel
theorem dX5_differingFrom_29 : decode cX5_differingFrom 29 = .ok (.iinc 3 1, 3) := by decide +kernel
theorem dX5_differingFrom_32 : decode cX5_differingFrom 32 = .ok (.goto (-28), 3) := by decide +kernel
theorem dX5_differingFrom_35 : decode cX5_differingFrom 35 = .ok (.iload_n 2, 1) := by decide +kernel
theorem dX5_differingFrom_36 : decode cX5_differingFrom 36 = .ok (.ireturn, 1) := by decide +kernel
set_option maxRecDepth 20000 in
theorem ggX5_takeLeast_X5_least : GoodIn wsX5_takeLeast wsX5_least := goodIn_r _ [6, 7, 8, 9, 10, 11] (by decide +kernel) (by decide +kernel)
set_option maxRecDepth 20000 in
theorem gX5_takeLeast_X5_least : GoodIn wsX5_takeLeast (va_wsS RX5 36 yX5_least wsX5_least) := goodIn_app (goodIn_of _ (by decide +kernel)) ggX5_takeLeast_X5_least
set_option maxRecDepth 20000 in
theorem ggX5_takeLeast_X5_closePlace : GoodIn wsX5_takeLeast wsX5_closePlace := goodIn_r _ [15, 1, 2, 16, 17] (by decide +kernel) (by decide +kernel)
set_option maxRecDepth 20000 in
theorem gX5_takeLeast_X5_closePlace : GoodIn wsX5_takeLeast (wsV RX5 33 RX5 yX5_closePlace wsX5_closePlace) := goodIn_app (goodIn_of _ (by decide +kernel)) ggX5_takeLeast_X5_closePlace
theorem dX5_takeLeast_0 : decode cX5_takeLeast 0 = .ok (.aload_n 0, 1) := by decide +kernel
theorem dX5_takeLeast_1 : decode cX5_takeLeast 1 = .ok (.getfield 15, 3) := by decide +kernel
theorem dX5_takeLeast_4 : decode cX5_takeLeast 4 = .ok (.ifCond .ne 5, 3) := by decide +kernel
theorem dX5_takeLeast_7 : decode cX5_takeLeast 7 = .ok (.iconst (-1), 1) := by decide +kernel
theorem dX5_takeLeast_8 : decode cX5_takeLeast 8 = .ok (.ireturn, 1) := by decide +kernel
theorem dX5_takeLeast_9 : decode cX5_takeLeast 9 = .ok (.aload_n 0, 1) := by decide +kernel
theorem dX5_takeLeast_10 : decode cX5_takeLeast 10 = .ok (.getfield 9, 3) := by decide +kernel
theorem dX5_takeLeast_13 : decode cX5_takeLeast 13 = .ok (.iconst 0, 1) := by decide +kernel
theorem dX5_takeLeast_14 : decode cX5_takeLeast 14 = .ok (.iaload, 1) := by decide +kernel
theorem dX5_takeLeast_15 : decode cX5_takeLeast 15 = .ok (.invokestatic 36, 3) := by decide +kernel
theorem dX5_takeLeast_18 : decode cX5_takeLeast 18 = .ok (.istore_n 1, 1) := by decide +kernel
theorem dX5_takeLeast_19 : decode cX5_takeLeast 19 = .ok (.aload_n 0, 1) := by decide +kernel
theorem dX5_takeLeast_20 : decode cX5_takeLeast 20 = .ok (.getfield 9, 3) := by decide +kernel
theorem dX5_takeLeast_23 : decode cX5_takeLeast 23 = .ok (.iconst 0, 1) := by decide +kernel
theorem dX5_takeLeast_24 : decode cX5_takeLeast 24 = .ok (.dup2, 1) := by decide +kernel
theorem dX5_takeLeast_25 : decode cX5_takeLeast 25 = .ok (.iaload, 1) := by decide +kernel
theorem dX5_takeLeast_26 : decode cX5_takeLeast 26 = .ok (.aload_n 0, 1) := by decide +kernel
theorem dX5_takeLeast_27 : decode cX5_takeLeast 27 = .ok (.getfield 9, 3) := by decide +kernel
theorem dX5_takeLeast_30 : decode cX5_takeLeast 30 = .ok (.iconst 0, 1) := by decide +kernel
theorem dX5_takeLeast_31 : decode cX5_takeLeast 31 = .ok (.iaload, 1) := by decide +kernel
theorem dX5_takeLeast_32 : decode cX5_takeLeast 32 = .ok (.iconst 1, 1) := by decide +kernel
theorem dX5_takeLeast_33 : decode cX5_takeLeast 33 = .ok (.isub, 1) := by decide +kernel
theorem dX5_takeLeast_34 : decode cX5_takeLeast 34 = .ok (.iand, 1) := by decide +kernel
theorem dX5_takeLeast_35 : decode cX5_takeLeast 35 = .ok (.iastore, 1) := by decide +kernel
theorem dX5_takeLeast_36 : decode cX5_takeLeast 36 = .ok (.aload_n 0, 1) := by decide +kernel
theorem dX5_takeLeast_37 : decode cX5_takeLeast 37 = .ok (.getfield 9, 3) := by decide +kernel
theorem dX5_takeLeast_40 : decode cX5_takeLeast 40 = .ok (.iconst 0, 1) := by decide +kernel
theorem dX5_takeLeast_41 : decode cX5_takeLeast 41 = .ok (.iaload, 1) := by decide +kernel
theorem dX5_takeLeast_42 : decode cX5_takeLeast 42 = .ok (.ifCond .ne 8, 3) := by decide +kernel
theorem dX5_takeLeast_45 : decode cX5_takeLeast 45 = .ok (.aload_n 0, 1) := by decide +kernel
theorem dX5_takeLeast_46 : decode cX5_takeLeast 46 = .ok (.iconst 0, 1) := by decide +kernel
theorem dX5_takeLeast_47 : decode cX5_takeLeast 47 = .ok (.invokevirtual 33, 3) := by decide +kernel
theorem dX5_takeLeast_50 : decode cX5_takeLeast 50 = .ok (.iload_n 1, 1) := by decide +kernel
theorem dX5_takeLeast_51 : decode cX5_takeLeast 51 = .ok (.ireturn, 1) := by decide +kernel
set_option maxRecDepth 20000 in
theorem ggX6_init_X5_init : GoodIn wsX6_init wsX5_init := goodIn_r _ [14, 15, 2, 3, 4, 16, 17, 63, 64] (by decide +kernel) (by decide +kernel)
set_option maxRecDepth 20000 in
theorem gX6_init_X5_init : GoodIn wsX6_init (wsX5_init) := ggX6_init_X5_init
set_option maxRecDepth 20000 in
theorem ggX6_init_X6_startWith : GoodIn wsX6_init wsX6_startWith := goodIn_r _ [22, 23, 5, 6, 24, 25, 11, 26, 27, 28, 29, 30, 31, 32, 33, 21, 34, 35, 36, 37, 38, 7, 39, 40, 41, 42, 43, 44, 45, 46, 47, 48, 49, 50, 51, 52, 53, 10, 54, 16, 17, 55, 56, 57, 58, 59, 60, 61, 62, 63, 64] (by decide +kernel) (by decide +kernel)
set_option maxRecDepth 20000 in
theorem gX6_init_X6_startWith : GoodIn wsX6_init (wsV RX6 28 RX6 yX6_startWith wsX6_startWith) := goodIn_app (goodIn_of _ (by decide +kernel)) ggX6_init_X6_startWith
theorem dX6_init_0 : decode cX6_init 0 = .ok (.aload_n 0, 1) := by decide +kernel
theorem dX6_init_1 : decode cX6_init 1 = .ok (.invokespecial 3, 3) := by decide +kernel
theorem dX6_init_4 : decode cX6_init 4 = .ok (.aload_n 0, 1) := by decide +kernel
theorem dX6_init_5 : decode cX6_init 5 = .ok (.bipush 12, 2) := by decide +kernel
theorem dX6_init_7 : decode cX6_init 7 = .ok (.newarray .int, 2) := by decide +kernel
theorem dX6_init_9 : decode cX6_init 9 = .ok (.putfield 9, 3) := by decide +kernel
theorem dX6_init_12 : decode cX6_init 12 = .ok (.aload_n 0, 1) := by decide +kernel
theorem dX6_init_13 : decode cX6_init 13 = .ok (.bipush 12, 2) := by decide +kernel
theorem dX6_init_15 : decode cX6_init 15 = .ok (.newarray .int, 2) := by decide +kernel
theorem dX6_init_17 : decode cX6_init 17 = .ok (.putfield 15, 3) := by decide +kernel
theorem dX6_init_20 : decode cX6_init 20 = .ok (.aload_n 0, 1) := by decide +kernel
theorem dX6_init_21 : decode cX6_init 21 = .ok (.bipush 36, 2) := by decide +kernel
theorem dX6_init_23 : decode cX6_init 23 = .ok (.newarray .int, 2) := by decide +kernel
theorem dX6_init_25 : decode cX6_init 25 = .ok (.putfield 18, 3) := by decide +kernel
theorem dX6_init_28 : decode cX6_init 28 = .ok (.aload_n 0, 1) := by decide +kernel
theorem dX6_init_29 : decode cX6_init 29 = .ok (.new 21, 3) := by decide +kernel
theorem dX6_init_32 : decode cX6_init 32 = .ok (.dup, 1) := by decide +kernel
theorem dX6_init_33 : decode cX6_init 33 = .ok (.invokespecial 23, 3) := by decide +kernel
theorem dX6_init_36 : decode cX6_init 36 = .ok (.putfield 24, 3) := by decide +kernel
theorem dX6_init_39 : decode cX6_init 39 = .ok (.aload_n 0, 1) := by decide +kernel
theorem dX6_init_40 : decode cX6_init 40 = .ok (.iconst 4, 1) := by decide +kernel
theorem dX6_init_41 : decode cX6_init 41 = .ok (.invokevirtual 28, 3) := by decide +kernel
theorem dX6_init_44 : decode cX6_init 44 = .ok (.return_, 1) := by decide +kernel
set_option maxRecDepth 20000 in
theorem ggX6_startWith_J7_fill_53178 : GoodIn wsX6_startWith wsJ7_fill_53178 := goodIn_r _ [11] (by decide +kernel) (by decide +kernel)
set_option maxRecDepth 20000 in
theorem gX6_startWith_J7_fill_53178 : GoodIn wsX6_startWith (va_wsS RX6 36 yJ7_fill_53178 wsJ7_fill_53178) := goodIn_app (goodIn_of _ (by decide +kernel)) ggX6_startWith_J7_fill_53178
set_option maxRecDepth 20000 in
theorem ggX6_startWith_X6_takeLetters : GoodIn wsX6_startWith wsX6_takeLetters := goodIn_r _ [16, 4, 1, 17, 18, 19, 15, 20, 21, 22, 23, 24, 25, 26, 27, 28, 29, 41, 42, 43, 44, 45, 46, 47, 48] (by decide +kernel) (by decide +kernel)
set_option maxRecDepth 20000 in
theorem gX6_startWith_X6_takeLetters : GoodIn wsX6_startWith (wsV RX6 45 RX6 yX6_takeLetters wsX6_takeLetters) := goodIn_app (goodIn_of _ (by decide +kernel)) ggX6_startWith_X6_takeLetters
set_option maxRecDepth 20000 in
theorem ggX6_startWith_X6_all : GoodIn wsX6_startWith wsX6_all := goodIn_r _ [33, 1, 41, 42, 43, 44, 45, 46, 47, 48] (by decide +kernel) (by decide +kernel)
set_option maxRecDepth 20000 in
theorem gX6_startWith_X6_all : GoodIn wsX6_startWith (wsV RX6 51 RX6 yX6_all wsX6_all) := goodIn_app (goodIn_of _ (by decide +kernel)) ggX6_startWith_X6_all
set_option maxRecDepth 20000 in
theorem ggX6_startWith_X5_gather : GoodIn wsX6_startWith wsX5_gather := goodIn_r _ [38, 39, 40, 49, 50] (by decide +kernel) (by decide +kernel)
set_option maxRecDepth 20000 in
theorem gX6_startWith_X5_gather : GoodIn wsX6_startWith (wsV RX6 55 RX5 yX5_gather wsX5_gather) := goodIn_app (goodIn_of _ (by decide +kernel)) ggX6_startWith_X5_gather
theorem dX6_startWith_0 : decode cX6_startWith 0 = .ok (.aload_n 0, 1) := by decide +kernel
theorem dX6_startWith_1 : decode cX6_startWith 1 = .ok (.iload_n 1, 1) := by decide +kernel
theorem dX6_startWith_2 : decode cX6_startWith 2 = .ok (.putfield 32, 3) := by decide +kernel
theorem dX6_startWith_5 : decode cX6_startWith 5 = .ok (.aload_n 0, 1) := by decide +kernel
theorem dX6_startWith_6 : decode cX6_startWith 6 = .ok (.getfield 9, 3) := by decide +kernel
theorem dX6_startWith_9 : decode cX6_startWith 9 = .ok (.iconst 0, 1) := by decide +kernel
theorem dX6_startWith_10 : decode cX6_startWith 10 = .ok (.invokestatic 36, 3) := by decide +kernel
theorem dX6_startWith_13 : decode cX6_startWith 13 = .ok (.aload_n 0, 1) := by decide +kernel
theorem dX6_startWith_14 : decode cX6_startWith 14 = .ok (.getfield 15, 3) := by decide +kernel
theorem dX6_startWith_17 : decode cX6_startWith 17 = .ok (.iconst 0, 1) := by decide +kernel
theorem dX6_startWith_18 : decode cX6_startWith 18 = .ok (.invokestatic 36, 3) := by decide +kernel
theorem dX6_startWith_21 : decode cX6_startWith 21 = .ok (.aload_n 0, 1) := by decide +kernel
theorem dX6_startWith_22 : decode cX6_startWith 22 = .ok (.iconst 0, 1) := by decide +kernel
theorem dX6_startWith_23 : decode cX6_startWith 23 = .ok (.putfield 42, 3) := by decide +kernel
theorem dX6_startWith_26 : decode cX6_startWith 26 = .ok (.aload_n 0, 1) := by decide +kernel
theorem dX6_startWith_27 : decode cX6_startWith 27 = .ok (.iconst 1, 1) := by decide +kernel
theorem dX6_startWith_28 : decode cX6_startWith 28 = .ok (.invokevirtual 45, 3) := by decide +kernel
theorem dX6_startWith_31 : decode cX6_startWith 31 = .ok (.aload_n 0, 1) := by decide +kernel
theorem dX6_startWith_32 : decode cX6_startWith 32 = .ok (.iconst 0, 1) := by decide +kernel
theorem dX6_startWith_33 : decode cX6_startWith 33 = .ok (.putfield 48, 3) := by decide +kernel
theorem dX6_startWith_36 : decode cX6_startWith 36 = .ok (.aload_n 0, 1) := by decide +kernel
theorem dX6_startWith_37 : decode cX6_startWith 37 = .ok (.getfield 24, 3) := by decide +kernel
theorem dX6_startWith_40 : decode cX6_startWith 40 = .ok (.aload_n 0, 1) := by decide +kernel
theorem dX6_startWith_41 : decode cX6_startWith 41 = .ok (.invokevirtual 51, 3) := by decide +kernel
theorem dX6_startWith_44 : decode cX6_startWith 44 = .ok (.invokevirtual 55, 3) := by decide +kernel
theorem dX6_startWith_47 : decode cX6_startWith 47 = .ok (.aload_n 0, 1) := by decide +kernel
theorem dX6_startWith_48 : decode cX6_startWith 48 = .ok (.iconst 0, 1) := by decide +kernel
theorem dX6_startWith_49 : decode cX6_startWith 49 = .ok (.putfield 58, 3) := by decide +kernel
theorem dX6_startWith_52 : decode cX6_startWith 52 = .ok (.return_, 1) := by decide +kernel
set_option maxRecDepth 20000 in
theorem ggX6_copyFrom_X5_copyFrom : GoodIn wsX6_copyFrom wsX5_copyFrom := goodIn_r _ [17, 18, 19, 7, 8, 9, 20, 29, 30] (by decide +kernel) (by decide +kernel)
set_option maxRecDepth 20000 in
theorem gX6_copyFrom_X5_copyFrom : GoodIn wsX6_copyFrom (wsV RX6 67 RX5 yX5_copyFrom wsX5_copyFrom) := goodIn_app (goodIn_of _ (by decide +kernel)) ggX6_copyFrom_X5_copyFrom
theorem dX6_copyFrom_0 : decode cX6_copyFrom 0 = .ok (.aload_n 0, 1) := by decide +kernel
theorem dX6_copyFrom_1 : decode cX6_copyFrom 1 = .ok (.aload_n 1, 1) := by decide +kernel
theorem dX6_copyFrom_2 : decode cX6_copyFrom 2 = .ok (.getfield 32, 3) := by decide +kernel
theorem dX6_copyFrom_5 : decode cX6_copyFrom 5 = .ok (.putfield 32, 3) := by decide +kernel
theorem dX6_copyFrom_8 : decode cX6_copyFrom 8 = .ok (.aload_n 0, 1) := by decide +kernel
theorem dX6_copyFrom_9 : decode cX6_copyFrom 9 = .ok (.aload_n 1, 1) := by decide +kernel
theorem dX6_copyFrom_10 : decode cX6_copyFrom 10 = .ok (.getfield 42, 3) := by decide +kernel
theorem dX6_copyFrom_13 : decode cX6_copyFrom 13 = .ok (.putfield 42, 3) := by decide +kernel
theorem dX6_copyFrom_16 : decode cX6_copyFrom 16 = .ok (.aload_n 0, 1) := by decide +kernel
theorem dX6_copyFrom_17 : decode cX6_copyFrom 17 = .ok (.aload_n 1, 1) := by decide +kernel
theorem dX6_copyFrom_18 : decode cX6_copyFrom 18 = .ok (.getfield 48, 3) := by decide +kernel
theorem dX6_copyFrom_21 : decode cX6_copyFrom 21 = .ok (.putfield 48, 3) := by decide +kernel
theorem dX6_copyFrom_24 : decode cX6_copyFrom 24 = .ok (.aload_n 0, 1) := by decide +kernel
theorem dX6_copyFrom_25 : decode cX6_copyFrom 25 = .ok (.aload_n 1, 1) := by decide +kernel
theorem dX6_copyFrom_26 : decode cX6_copyFrom 26 = .ok (.getfield 58, 3) := by decide +kernel
theorem dX6_copyFrom_29 : decode cX6_copyFrom 29 = .ok (.putfield 58, 3) := by decide +kernel
theorem dX6_copyFrom_32 : decode cX6_copyFrom 32 = .ok (.aload_n 1, 1) := by decide +kernel
theorem dX6_copyFrom_33 : decode cX6_copyFrom 33 = .ok (.getfield 9, 3) := by decide +kernel
theorem dX6_copyFrom_36 : decode cX6_copyFrom 36 = .ok (.iconst 0, 1) := by decide +kernel
theorem dX6_copyFrom_37 : decode cX6_copyFrom 37 = .ok (.aload_n 0, 1) := by decide +kernel
theorem dX6_copyFrom_38 : decode cX6_copyFrom 38 = .ok (.getfield 9, 3) := by decide +kernel
theorem dX6_copyFrom_41 : decode cX6_copyFrom 41 = .ok (.iconst 0, 1) := by decide +kernel
theorem dX6_copyFrom_42 : decode cX6_copyFrom 42 = .ok (.bipush 12, 2) := by decide +kernel
theorem dX6_copyFrom_44 : decode cX6_copyFrom 44 = .ok (.invokestatic 61, 3) := by decide +kernel
theorem dX6_copyFrom_47 : decode cX6_copyFrom 47 = .ok (.aload_n 1, 1) := by decide +kernel
theorem dX6_copyFrom_48 : decode cX6_copyFrom 48 = .ok (.getfield 15, 3) := by decide +kernel
theorem dX6_copyFrom_51 : decode cX6_copyFrom 51 = .ok (.iconst 0, 1) := by decide +kernel
theorem dX6_copyFrom_52 : decode cX6_copyFrom 52 = .ok (.aload_n 0, 1) := by decide +kernel
theorem dX6_copyFrom_53 : decode cX6_copyFrom 53 = .ok (.getfield 15, 3) := by decide +kernel
theorem dX6_copyFrom_56 : decode cX6_copyFrom 56 = .ok (.iconst 0, 1) := by decide +kernel
theorem dX6_copyFrom_57 : decode cX6_copyFrom 57 = .ok (.bipush 12, 2) := by decide +kernel
theorem dX6_copyFrom_59 : decode cX6_copyFrom 59 = .ok (.invokestatic 61, 3) := by decide +kernel
theorem dX6_copyFrom_62 : decode cX6_copyFrom 62 = .ok (.aload_n 1, 1) := by decide +kernel
theorem dX6_copyFrom_63 : decode cX6_copyFrom 63 = .ok (.getfield 18, 3) := by decide +kernel
theorem dX6_copyFrom_66 : decode cX6_copyFrom 66 = .ok (.iconst 0, 1) := by decide +kernel
theorem dX6_copyFrom_67 : decode cX6_copyFrom 67 = .ok (.aload_n 0, 1) := by decide +kernel
theorem dX6_copyFrom_68 : decode cX6_copyFrom 68 = .ok (.getfield 18, 3) := by decide +kernel
theorem dX6_copyFrom_71 : decode cX6_copyFrom 71 = .ok (.iconst 0, 1) := by decide +kernel
theorem dX6_copyFrom_72 : decode cX6_copyFrom 72 = .ok (.bipush 36, 2) := by decide +kernel
theorem dX6_copyFrom_74 : decode cX6_copyFrom 74 = .ok (.invokestatic 61, 3) := by decide +kernel
theorem dX6_copyFrom_77 : decode cX6_copyFrom 77 = .ok (.aload_n 0, 1) := by decide +kernel
theorem dX6_copyFrom_78 : decode cX6_copyFrom 78 = .ok (.getfield 24, 3) := by decide +kernel
theorem dX6_copyFrom_81 : decode cX6_copyFrom 81 = .ok (.aload_n 1, 1) := by decide +kernel
theorem dX6_copyFrom_82 : decode cX6_copyFrom 82 = .ok (.getfield 24, 3) := by decide +kernel
theorem dX6_copyFrom_85 : decode cX6_copyFrom 85 = .ok (.invokevirtual 67, 3) := by decide +kernel
theorem dX6_copyFrom_88 : decode cX6_copyFrom 88 = .ok (.return_, 1) := by decide +kernel
theorem dX6_all_0 : decode cX6_all 0 = .ok (.iconst 1, 1) := by decide +kernel
theorem dX6_all_1 : decode cX6_all 1 = .ok (.aload_n 0, 1) := by decide +kernel
theorem dX6_all_2 : decode cX6_all 2 = .ok (.getfield 32, 3) := by decide +kernel
theorem dX6_all_5 : decode cX6_all 5 = .ok (.ishl, 1) := by decide +kernel
theorem dX6_all_6 : decode cX6_all 6 = .ok (.iconst 1, 1) := by decide +kernel
theorem dX6_all_7 : decode cX6_all 7 = .ok (.isub, 1) := by decide +kernel
theorem dX6_all_8 : decode cX6_all 8 = .ok (.ireturn, 1) := by decide +kernel
theorem dX6_hasItem_0 : decode cX6_hasItem 0 = .ok (.iload_n 1, 1) := by decide +kernel
theorem dX6_hasItem_1 : decode cX6_hasItem 1 = .ok (.ifCond .lt 15, 3) := by decide +kernel
theorem dX6_hasItem_4 : decode cX6_hasItem 4 = .ok (.iload_n 1, 1) := by decide +kernel
theorem dX6_hasItem_5 : decode cX6_hasItem 5 = .ok (.aload_n 0, 1) := by decide +kernel
theorem dX6_hasItem_6 : decode cX6_hasItem 6 = .ok (.getfield 32, 3) := by decide +kernel
theorem dX6_hasItem_9 : decode cX6_hasItem 9 = .ok (.if_icmp .ge 7, 3) := by decide +kernel
theorem dX6_hasItem_12 : decode cX6_hasItem 12 = .ok (.iconst 1, 1) := by decide +kernel
theorem dX6_hasItem_13 : decode cX6_hasItem 13 = .ok (.goto 4, 3) := by decide +kernel
theorem dX6_hasItem_16 : decode cX6_hasItem 16 = .ok (.iconst 0, 1) := by decide +kernel
theorem dX6_hasItem_17 : decode cX6_hasItem 17 = .ok (.ireturn, 1) := by decide +kernel
set_option maxRecDepth 20000 in
theorem ggX6_hasItemsOf_X6_all : GoodIn wsX6_hasItemsOf wsX6_all := goodIn_r _ [5, 6, 7, 8, 9, 10, 11, 12, 13, 14] (by decide +kernel) (by decide +kernel)
set_option maxRecDepth 20000 in
theorem gX6_hasItemsOf_X6_all : GoodIn wsX6_hasItemsOf (wsV RX6 51 RX6 yX6_all wsX6_all) := goodIn_app (goodIn_of _ (by decide +kernel)) ggX6_hasItemsOf_X6_all
theorem dX6_hasItemsOf_0 : decode cX6_hasItemsOf 0 = .ok (.iload_n 1, 1) := by decide +kernel
theorem dX6_hasItemsOf_1 : decode cX6_hasItemsOf 1 = .ok (.aload_n 0, 1) := by decide +kernel
theorem dX6_hasItemsOf_2 : decode cX6_hasItemsOf 2 = .ok (.invokevirtual 51, 3) := by decide +kernel
theorem dX6_hasItemsOf_5 : decode cX6_hasItemsOf 5 = .ok (.iconst (-1), 1) := by decide +kernel
theorem dX6_hasItemsOf_6 : decode cX6_hasItemsOf 6 = .ok (.ixor, 1) := by decide +kernel
theorem dX6_hasItemsOf_7 : decode cX6_hasItemsOf 7 = .ok (.iand, 1) := by decide +kernel
theorem dX6_hasItemsOf_8 : decode cX6_hasItemsOf 8 = .ok (.ifCond .ne 7, 3) := by decide +kernel
theorem dX6_hasItemsOf_11 : decode cX6_hasItemsOf 11 = .ok (.iconst 1, 1) := by decide +kernel
theorem dX6_hasItemsOf_12 : decode cX6_hasItemsOf 12 = .ok (.goto 4, 3) := by decide +kernel
theorem dX6_hasItemsOf_15 : decode cX6_hasItemsOf 15 = .ok (.iconst 0, 1) := by decide +kernel
theorem dX6_hasItemsOf_16 : decode cX6_hasItemsOf 16 = .ok (.ireturn, 1) := by decide +kernel
theorem dX6_hasLetter_0 : decode cX6_hasLetter 0 = .ok (.iload_n 1, 1) := by decide +kernel
theorem dX6_hasLetter_1 : decode cX6_hasLetter 1 = .ok (.ifCond .lt 15, 3) := by decide +kernel
theorem dX6_hasLetter_4 : decode cX6_hasLetter 4 = .ok (.iload_n 1, 1) := by decide +kernel
theorem dX6_hasLetter_5 : decode cX6_hasLetter 5 = .ok (.aload_n 0, 1) := by decide +kernel
theorem dX6_hasLetter_6 : decode cX6_hasLetter 6 = .ok (.getfield 42, 3) := by decide +kernel
theorem dX6_hasLetter_9 : decode cX6_hasLetter 9 = .ok (.if_icmp .ge 7, 3) := by decide +kernel
theorem dX6_hasLetter_12 : decode cX6_hasLetter 12 = .ok (.iconst 1, 1) := by decide +kernel
theorem dX6_hasLetter_13 : decode cX6_hasLetter 13 = .ok (.goto 4, 3) := by decide +kernel
theorem dX6_hasLetter_16 : decode cX6_hasLetter 16 = .ok (.iconst 0, 1) := by decide +kernel
theorem dX6_hasLetter_17 : decode cX6_hasLetter 17 = .ok (.ireturn, 1) := by decide +kernel
set_option maxRecDepth 20000 in
theorem ggX6_leadsTo_X6_hasItem : GoodIn wsX6_leadsTo wsX6_hasItem := goodIn_r _ [6, 7, 13, 14, 15, 16, 17, 18, 19, 20] (by decide +kernel) (by decide +kernel)
set_option maxRecDepth 20000 in
theorem gX6_leadsTo_X6_hasItem : GoodIn wsX6_leadsTo (wsV RX6 71 RX6 yX6_hasItem wsX6_hasItem) := goodIn_app (goodIn_of _ (by decide +kernel)) ggX6_leadsTo_X6_hasItem
set_option maxRecDepth 20000 in
theorem ggX6_leadsTo_X6_hasLetter : GoodIn wsX6_leadsTo wsX6_hasLetter := goodIn_r _ [11, 12, 13, 14, 15, 16, 17, 18, 19, 20] (by decide +kernel) (by decide +kernel)
set_option maxRecDepth 20000 in
theorem gX6_leadsTo_X6_hasLetter : GoodIn wsX6_leadsTo (wsV RX6 75 RX6 yX6_hasLetter wsX6_hasLetter) := goodIn_app (goodIn_of _ (by decide +kernel)) ggX6_leadsTo_X6_hasLetter
theorem dX6_leadsTo_0 : decode cX6_leadsTo 0 = .ok (.aload_n 0, 1) := by decide +kernel
theorem dX6_leadsTo_1 : decode cX6_leadsTo 1 = .ok (.iload_n 1, 1) := by decide +kernel
theorem dX6_leadsTo_2 : decode cX6_leadsTo 2 = .ok (.invokevirtual 71, 3) := by decide +kernel
theorem dX6_leadsTo_5 : decode cX6_leadsTo 5 = .ok (.ifCond .eq 25, 3) := by decide +kernel
theorem dX6_leadsTo_8 : decode cX6_leadsTo 8 = .ok (.aload_n 0, 1) := by decide +kernel
theorem dX6_leadsTo_9 : decode cX6_leadsTo 9 = .ok (.iload_n 2, 1) := by decide +kernel
theorem dX6_leadsTo_10 : decode cX6_leadsTo 10 = .ok (.invokevirtual 75, 3) := by decide +kernel
theorem dX6_leadsTo_13 : decode cX6_leadsTo 13 = .ok (.ifCond .eq 17, 3) := by decide +kernel
theorem dX6_leadsTo_16 : decode cX6_leadsTo 16 = .ok (.aload_n 0, 1) := by decide +kernel
theorem dX6_leadsTo_17 : decode cX6_leadsTo 17 = .ok (.getfield 18, 3) := by decide +kernel
theorem dX6_leadsTo_20 : decode cX6_leadsTo 20 = .ok (.iload_n 2, 1) := by decide +kernel
theorem dX6_leadsTo_21 : decode cX6_leadsTo 21 = .ok (.bipush 12, 2) := by decide +kernel
theorem dX6_leadsTo_23 : decode cX6_leadsTo 23 = .ok (.imul, 1) := by decide +kernel
theorem dX6_leadsTo_24 : decode cX6_leadsTo 24 = .ok (.iload_n 1, 1) := by decide +kernel
theorem dX6_leadsTo_25 : decode cX6_leadsTo 25 = .ok (.iadd, 1) := by decide +kernel
theorem dX6_leadsTo_26 : decode cX6_leadsTo 26 = .ok (.iaload, 1) := by decide +kernel
theorem dX6_leadsTo_27 : decode cX6_leadsTo 27 = .ok (.goto 4, 3) := by decide +kernel
theorem dX6_leadsTo_30 : decode cX6_leadsTo 30 = .ok (.iconst (-1), 1) := by decide +kernel
theorem dX6_leadsTo_31 : decode cX6_leadsTo 31 = .ok (.ireturn, 1) := by decide +kernel
set_option maxRecDepth 20000 in
theorem ggX6_lead_X6_hasItem : GoodIn wsX6_lead wsX6_hasItem := goodIn_r _ [6, 7, 13, 14, 15, 16, 17, 18, 19, 20] (by decide +kernel) (by decide +kernel)
set_option maxRecDepth 20000 in
theorem gX6_lead_X6_hasItem : GoodIn wsX6_lead (wsV RX6 71 RX6 yX6_hasItem wsX6_hasItem) := goodIn_app (goodIn_of _ (by decide +kernel)) ggX6_lead_X6_hasItem
set_option maxRecDepth 20000 in
theorem ggX6_lead_X6_hasLetter : GoodIn wsX6_lead wsX6_hasLetter := goodIn_r _ [11, 12, 13, 14, 15, 16, 17, 18, 19, 20] (by decide +kernel) (by decide +kernel)
set_option maxRecDepth 20000 in
theorem gX6_lead_X6_hasLetter : GoodIn wsX6_lead (wsV RX6 75 RX6 yX6_hasLetter wsX6_hasLetter) := goodIn_app (goodIn_of _ (by decide +kernel)) ggX6_lead_X6_hasLetter
theorem dX6_lead_0 : decode cX6_lead 0 = .ok (.aload_n 0, 1) := by decide +kernel
theorem dX6_lead_1 : decode cX6_lead 1 = .ok (.iload_n 1, 1) := by decide +kernel
theorem dX6_lead_2 : decode cX6_lead 2 = .ok (.invokevirtual 71, 3) := by decide +kernel
theorem dX6_lead_5 : decode cX6_lead 5 = .ok (.ifCond .eq 31, 3) := by decide +kernel
theorem dX6_lead_8 : decode cX6_lead 8 = .ok (.aload_n 0, 1) := by decide +kernel
theorem dX6_lead_9 : decode cX6_lead 9 = .ok (.iload_n 2, 1) := by decide +kernel
theorem dX6_lead_10 : decode cX6_lead 10 = .ok (.invokevirtual 75, 3) := by decide +kernel
theorem dX6_lead_13 : decode cX6_lead 13 = .ok (.ifCond .eq 23, 3) := by decide +kernel
theorem dX6_lead_16 : decode cX6_lead 16 = .ok (.aload_n 0, 1) := by decide +kernel
theorem dX6_lead_17 : decode cX6_lead 17 = .ok (.iload_n 3, 1) := by decide +kernel
theorem dX6_lead_18 : decode cX6_lead 18 = .ok (.invokevirtual 71, 3) := by decide +kernel
theorem dX6_lead_21 : decode cX6_lead 21 = .ok (.ifCond .eq 15, 3) := by decide +kernel
theorem dX6_lead_24 : decode cX6_lead 24 = .ok (.aload_n 0, 1) := by decide +kernel
theorem dX6_lead_25 : decode cX6_lead 25 = .ok (.getfield 18, 3) := by decide +kernel
theorem dX6_lead_28 : decode cX6_lead 28 = .ok (.iload_n 2, 1) := by decide +kernel
theorem dX6_lead_29 : decode cX6_lead 29 = .ok (.bipush 12, 2) := by decide +kernel
theorem dX6_lead_31 : decode cX6_lead 31 = .ok (.imul, 1) := by decide +kernel
theorem dX6_lead_32 : decode cX6_lead 32 = .ok (.iload_n 1, 1) := by decide +kernel
theorem dX6_lead_33 : decode cX6_lead 33 = .ok (.iadd, 1) := by decide +kernel
theorem dX6_lead_34 : decode cX6_lead 34 = .ok (.iload_n 3, 1) := by decide +kernel
theorem dX6_lead_35 : decode cX6_lead 35 = .ok (.iastore, 1) := by decide +kernel
theorem dX6_lead_36 : decode cX6_lead 36 = .ok (.return_, 1) := by decide +kernel
set_option maxRecDepth 20000 in
theorem ggX6_takeLetters_X6_lead : GoodIn wsX6_takeLetters wsX6_lead := goodIn_r _ [7, 8, 9, 10, 11, 6, 12, 2, 13, 14, 15, 16, 1, 17, 18, 19, 20, 21, 22, 23, 24] (by decide +kernel) (by decide +kernel)
set_option maxRecDepth 20000 in
theorem gX6_takeLetters_X6_lead : GoodIn wsX6_takeLetters (wsV RX6 78 RX6 yX6_lead wsX6_lead) := goodIn_app (goodIn_of _ (by decide +kernel)) ggX6_takeLetters_X6_lead
theorem dX6_takeLetters_0 : decode cX6_takeLetters 0 = .ok (.aload_n 0, 1) := by decide +kernel
theorem dX6_takeLetters_1 : decode cX6_takeLetters 1 = .ok (.getfield 42, 3) := by decide +kernel
theorem dX6_takeLetters_4 : decode cX6_takeLetters 4 = .ok (.istore_n 2, 1) := by decide +kernel
theorem dX6_takeLetters_5 : decode cX6_takeLetters 5 = .ok (.aload_n 0, 1) := by decide +kernel
theorem dX6_takeLetters_6 : decode cX6_takeLetters 6 = .ok (.iload_n 1, 1) := by decide +kernel
theorem dX6_takeLetters_7 : decode cX6_takeLetters 7 = .ok (.putfield 42, 3) := by decide +kernel
theorem dX6_takeLetters_10 : decode cX6_takeLetters 10 = .ok (.iload_n 2, 1) := by decide +kernel
theorem dX6_takeLetters_11 : decode cX6_takeLetters 11 = .ok (.istore_n 3, 1) := by decide +kernel
theorem dX6_takeLetters_12 : decode cX6_takeLetters 12 = .ok (.iload_n 3, 1) := by decide +kernel
theorem dX6_takeLetters_13 : decode cX6_takeLetters 13 = .ok (.iload_n 1, 1) := by decide +kernel
theorem dX6_takeLetters_14 : decode cX6_takeLetters 14 = .ok (.if_icmp .ge 36, 3) := by decide +kernel
theorem dX6_takeLetters_17 : decode cX6_takeLetters 17 = .ok (.iconst 0, 1) := by decide +kernel
theorem dX6_takeLetters_18 : decode cX6_takeLetters 18 = .ok (.istore 4, 2) := by decide +kernel
theorem dX6_takeLetters_20 : decode cX6_takeLetters 20 = .ok (.iload 4, 2) := by decide +kernel
theorem dX6_takeLetters_22 : decode cX6_takeLetters 22 = .ok (.aload_n 0, 1) := by decide +kernel
theorem dX6_takeLetters_23 : decode cX6_takeLetters 23 = .ok (.getfield 32, 3) := by decide +kernel
theorem dX6_takeLetters_26 : decode cX6_takeLetters 26 = .ok (.if_icmp .ge 18, 3) := by decide +kernel
end
section
theorem dX6_takeLetters_29 : decode cX6_takeLetters 29 = .ok (.aload_n 0, 1) := by decide +kernel
theorem dX6_takeLetters_30 : decode cX6_takeLetters 30 = .ok (.iload 4, 2) := by decide +kernel
theorem dX6_takeLetters_32 : decode cX6_takeLetters 32 = .ok (.iload_n 3, 1) := by decide +kernel
theorem dX6_takeLetters_33 : decode cX6_takeLetters 33 = .ok (.iload 4, 2) := by decide +kernel
theorem dX6_takeLetters_35 : decode cX6_takeLetters 35 = .ok (.invokevirtual 78, 3) := by decide +kernel
theorem dX6_takeLetters_38 : decode cX6_takeLetters 38 = .ok (.iinc 4 1, 3) := by decide +kernel
theorem dX6_takeLetters_41 : decode cX6_takeLetters 41 = .ok (.goto (-21), 3) := by decide +kernel
theorem dX6_takeLetters_44 : decode cX6_takeLetters 44 = .ok (.iinc 3 1, 3) := by decide +kernel
theorem dX6_takeLetters_47 : decode cX6_takeLetters 47 = .ok (.goto (-35), 3) := by decide +kernel
theorem dX6_takeLetters_50 : decode cX6_takeLetters 50 = .ok (.return_, 1) := by decide +kernel
set_option maxRecDepth 20000 in
theorem ggX6_isEdge_X6_hasItem : GoodIn wsX6_isEdge wsX6_hasItem := goodIn_r _ [6, 7, 8, 9, 10, 11, 12, 13, 14, 15] (by decide +kernel) (by decide +kernel)
set_option maxRecDepth 20000 in
theorem gX6_isEdge_X6_hasItem : GoodIn wsX6_isEdge (wsV RX6 71 RX6 yX6_hasItem wsX6_hasItem) := goodIn_app (goodIn_of _ (by decide +kernel)) ggX6_isEdge_X6_hasItem
theorem dX6_isEdge_0 : decode cX6_isEdge 0 = .ok (.aload_n 0, 1) := by decide +kernel
theorem dX6_isEdge_1 : decode cX6_isEdge 1 = .ok (.iload_n 1, 1) := by decide +kernel
theorem dX6_isEdge_2 : decode cX6_isEdge 2 = .ok (.invokevirtual 71, 3) := by decide +kernel
theorem dX6_isEdge_5 : decode cX6_isEdge 5 = .ok (.ifCond .eq 20, 3) := by decide +kernel
theorem dX6_isEdge_8 : decode cX6_isEdge 8 = .ok (.aload_n 0, 1) := by decide +kernel
theorem dX6_isEdge_9 : decode cX6_isEdge 9 = .ok (.getfield 15, 3) := by decide +kernel
theorem dX6_isEdge_12 : decode cX6_isEdge 12 = .ok (.iload_n 1, 1) := by decide +kernel
theorem dX6_isEdge_13 : decode cX6_isEdge 13 = .ok (.iaload, 1) := by decide +kernel
theorem dX6_isEdge_14 : decode cX6_isEdge 14 = .ok (.iload_n 2, 1) := by decide +kernel
theorem dX6_isEdge_15 : decode cX6_isEdge 15 = .ok (.ishr, 1) := by decide +kernel
theorem dX6_isEdge_16 : decode cX6_isEdge 16 = .ok (.iconst 1, 1) := by decide +kernel
theorem dX6_isEdge_17 : decode cX6_isEdge 17 = .ok (.iand, 1) := by decide +kernel
theorem dX6_isEdge_18 : decode cX6_isEdge 18 = .ok (.ifCond .eq 7, 3) := by decide +kernel
theorem dX6_isEdge_21 : decode cX6_isEdge 21 = .ok (.iconst 1, 1) := by decide +kernel
theorem dX6_isEdge_22 : decode cX6_isEdge 22 = .ok (.goto 4, 3) := by decide +kernel
theorem dX6_isEdge_25 : decode cX6_isEdge 25 = .ok (.iconst 0, 1) := by decide +kernel
theorem dX6_isEdge_26 : decode cX6_isEdge 26 = .ok (.ireturn, 1) := by decide +kernel
set_option maxRecDepth 20000 in
theorem ggX6_flipEdge_X6_hasItem : GoodIn wsX6_flipEdge wsX6_hasItem := goodIn_r _ [6, 7, 8, 9, 10, 11, 12, 13, 14, 15] (by decide +kernel) (by decide +kernel)
set_option maxRecDepth 20000 in
theorem gX6_flipEdge_X6_hasItem : GoodIn wsX6_flipEdge (wsV RX6 71 RX6 yX6_hasItem wsX6_hasItem) := goodIn_app (goodIn_of _ (by decide +kernel)) ggX6_flipEdge_X6_hasItem
theorem dX6_flipEdge_0 : decode cX6_flipEdge 0 = .ok (.aload_n 0, 1) := by decide +kernel
theorem dX6_flipEdge_1 : decode cX6_flipEdge 1 = .ok (.iload_n 1, 1) := by decide +kernel
theorem dX6_flipEdge_2 : decode cX6_flipEdge 2 = .ok (.invokevirtual 71, 3) := by decide +kernel
theorem dX6_flipEdge_5 : decode cX6_flipEdge 5 = .ok (.ifCond .eq 40, 3) := by decide +kernel
theorem dX6_flipEdge_8 : decode cX6_flipEdge 8 = .ok (.aload_n 0, 1) := by decide +kernel
theorem dX6_flipEdge_9 : decode cX6_flipEdge 9 = .ok (.iload_n 2, 1) := by decide +kernel
theorem dX6_flipEdge_10 : decode cX6_flipEdge 10 = .ok (.invokevirtual 71, 3) := by decide +kernel
theorem dX6_flipEdge_13 : decode cX6_flipEdge 13 = .ok (.ifCond .eq 32, 3) := by decide +kernel
theorem dX6_flipEdge_16 : decode cX6_flipEdge 16 = .ok (.iload_n 1, 1) := by decide +kernel
theorem dX6_flipEdge_17 : decode cX6_flipEdge 17 = .ok (.iload_n 2, 1) := by decide +kernel
theorem dX6_flipEdge_18 : decode cX6_flipEdge 18 = .ok (.if_icmp .eq 27, 3) := by decide +kernel
theorem dX6_flipEdge_21 : decode cX6_flipEdge 21 = .ok (.aload_n 0, 1) := by decide +kernel
theorem dX6_flipEdge_22 : decode cX6_flipEdge 22 = .ok (.getfield 15, 3) := by decide +kernel
theorem dX6_flipEdge_25 : decode cX6_flipEdge 25 = .ok (.iload_n 1, 1) := by decide +kernel
theorem dX6_flipEdge_26 : decode cX6_flipEdge 26 = .ok (.dup2, 1) := by decide +kernel
theorem dX6_flipEdge_27 : decode cX6_flipEdge 27 = .ok (.iaload, 1) := by decide +kernel
theorem dX6_flipEdge_28 : decode cX6_flipEdge 28 = .ok (.iconst 1, 1) := by decide +kernel
theorem dX6_flipEdge_29 : decode cX6_flipEdge 29 = .ok (.iload_n 2, 1) := by decide +kernel
theorem dX6_flipEdge_30 : decode cX6_flipEdge 30 = .ok (.ishl, 1) := by decide +kernel
theorem dX6_flipEdge_31 : decode cX6_flipEdge 31 = .ok (.ixor, 1) := by decide +kernel
theorem dX6_flipEdge_32 : decode cX6_flipEdge 32 = .ok (.iastore, 1) := by decide +kernel
theorem dX6_flipEdge_33 : decode cX6_flipEdge 33 = .ok (.aload_n 0, 1) := by decide +kernel
theorem dX6_flipEdge_34 : decode cX6_flipEdge 34 = .ok (.getfield 15, 3) := by decide +kernel
theorem dX6_flipEdge_37 : decode cX6_flipEdge 37 = .ok (.iload_n 2, 1) := by decide +kernel
theorem dX6_flipEdge_38 : decode cX6_flipEdge 38 = .ok (.dup2, 1) := by decide +kernel
theorem dX6_flipEdge_39 : decode cX6_flipEdge 39 = .ok (.iaload, 1) := by decide +kernel
theorem dX6_flipEdge_40 : decode cX6_flipEdge 40 = .ok (.iconst 1, 1) := by decide +kernel
theorem dX6_flipEdge_41 : decode cX6_flipEdge 41 = .ok (.iload_n 1, 1) := by decide +kernel
theorem dX6_flipEdge_42 : decode cX6_flipEdge 42 = .ok (.ishl, 1) := by decide +kernel
theorem dX6_flipEdge_43 : decode cX6_flipEdge 43 = .ok (.ixor, 1) := by decide +kernel
theorem dX6_flipEdge_44 : decode cX6_flipEdge 44 = .ok (.iastore, 1) := by decide +kernel
theorem dX6_flipEdge_45 : decode cX6_flipEdge 45 = .ok (.return_, 1) := by decide +kernel
set_option maxRecDepth 20000 in
theorem ggX6_edgeCount_J6_bitCount_0f7a4 : GoodIn wsX6_edgeCount wsJ6_bitCount_0f7a4 := goodIn_r _ [6, 7, 8, 9] (by decide +kernel) (by decide +kernel)
set_option maxRecDepth 20000 in
theorem gX6_edgeCount_J6_bitCount_0f7a4 : GoodIn wsX6_edgeCount (va_wsS RX6 82 yJ6_bitCount_0f7a4 wsJ6_bitCount_0f7a4) := goodIn_app (goodIn_of _ (by decide +kernel)) ggX6_edgeCount_J6_bitCount_0f7a4
theorem dX6_edgeCount_0 : decode cX6_edgeCount 0 = .ok (.iconst 0, 1) := by decide +kernel
theorem dX6_edgeCount_1 : decode cX6_edgeCount 1 = .ok (.istore_n 1, 1) := by decide +kernel
theorem dX6_edgeCount_2 : decode cX6_edgeCount 2 = .ok (.iconst 0, 1) := by decide +kernel
theorem dX6_edgeCount_3 : decode cX6_edgeCount 3 = .ok (.istore_n 2, 1) := by decide +kernel
theorem dX6_edgeCount_4 : decode cX6_edgeCount 4 = .ok (.iload_n 2, 1) := by decide +kernel
theorem dX6_edgeCount_5 : decode cX6_edgeCount 5 = .ok (.aload_n 0, 1) := by decide +kernel
theorem dX6_edgeCount_6 : decode cX6_edgeCount 6 = .ok (.getfield 32, 3) := by decide +kernel
theorem dX6_edgeCount_9 : decode cX6_edgeCount 9 = .ok (.if_icmp .ge 21, 3) := by decide +kernel
theorem dX6_edgeCount_12 : decode cX6_edgeCount 12 = .ok (.iload_n 1, 1) := by decide +kernel
theorem dX6_edgeCount_13 : decode cX6_edgeCount 13 = .ok (.aload_n 0, 1) := by decide +kernel
theorem dX6_edgeCount_14 : decode cX6_edgeCount 14 = .ok (.getfield 15, 3) := by decide +kernel
theorem dX6_edgeCount_17 : decode cX6_edgeCount 17 = .ok (.iload_n 2, 1) := by decide +kernel
theorem dX6_edgeCount_18 : decode cX6_edgeCount 18 = .ok (.iaload, 1) := by decide +kernel
theorem dX6_edgeCount_19 : decode cX6_edgeCount 19 = .ok (.invokestatic 82, 3) := by decide +kernel
theorem dX6_edgeCount_22 : decode cX6_edgeCount 22 = .ok (.iadd, 1) := by decide +kernel
theorem dX6_edgeCount_23 : decode cX6_edgeCount 23 = .ok (.istore_n 1, 1) := by decide +kernel
theorem dX6_edgeCount_24 : decode cX6_edgeCount 24 = .ok (.iinc 2 1, 3) := by decide +kernel
theorem dX6_edgeCount_27 : decode cX6_edgeCount 27 = .ok (.goto (-23), 3) := by decide +kernel
theorem dX6_edgeCount_30 : decode cX6_edgeCount 30 = .ok (.iload_n 1, 1) := by decide +kernel
theorem dX6_edgeCount_31 : decode cX6_edgeCount 31 = .ok (.iconst 2, 1) := by decide +kernel
theorem dX6_edgeCount_32 : decode cX6_edgeCount 32 = .ok (.idiv, 1) := by decide +kernel
theorem dX6_edgeCount_33 : decode cX6_edgeCount 33 = .ok (.ireturn, 1) := by decide +kernel
set_option maxRecDepth 20000 in
theorem ggX6_setOfKind_X6_hasItem : GoodIn wsX6_setOfKind wsX6_hasItem := goodIn_r _ [7, 8, 50, 51, 52, 53, 54, 55, 56, 57] (by decide +kernel) (by decide +kernel)
set_option maxRecDepth 20000 in
theorem gX6_setOfKind_X6_hasItem : GoodIn wsX6_setOfKind (wsV RX6 71 RX6 yX6_hasItem wsX6_hasItem) := goodIn_app (goodIn_of _ (by decide +kernel)) ggX6_setOfKind_X6_hasItem
set_option maxRecDepth 20000 in
theorem ggX6_setOfKind_X6_itemsWithColumn : GoodIn wsX6_setOfKind wsX6_itemsWithColumn := goodIn_r _ [12, 8, 13, 50, 51, 52, 53, 54, 55, 56, 57] (by decide +kernel) (by decide +kernel)
set_option maxRecDepth 20000 in
theorem gX6_setOfKind_X6_itemsWithColumn : GoodIn wsX6_setOfKind (wsV RX6 88 RX6 yX6_itemsWithColumn wsX6_itemsWithColumn) := goodIn_app (goodIn_of _ (by decide +kernel)) ggX6_setOfKind_X6_itemsWithColumn
set_option maxRecDepth 20000 in
theorem ggX6_setOfKind_X5_setAt : GoodIn wsX6_setOfKind wsX5_setAt := goodIn_r _ [18, 19, 20, 21, 22, 17, 23, 24, 58, 59] (by decide +kernel) (by decide +kernel)
set_option maxRecDepth 20000 in
theorem gX6_setOfKind_X5_setAt : GoodIn wsX6_setOfKind (wsV RX6 91 RX5 yX5_setAt wsX5_setAt) := goodIn_app (goodIn_of _ (by decide +kernel)) ggX6_setOfKind_X5_setAt
set_option maxRecDepth 20000 in
theorem ggX6_setOfKind_X6_itemsThatGoInto : GoodIn wsX6_setOfKind wsX6_itemsThatGoInto := goodIn_r _ [28, 8, 29, 30, 31, 6, 32, 33, 3, 4, 5, 7, 34, 35, 36, 37, 38, 50, 51, 52, 53, 54, 55, 56, 57] (by decide +kernel) (by decide +kernel)
set_option maxRecDepth 20000 in
theorem gX6_setOfKind_X6_itemsThatGoInto : GoodIn wsX6_setOfKind (wsV RX6 94 RX6 yX6_itemsThatGoInto wsX6_itemsThatGoInto) := goodIn_app (goodIn_of _ (by decide +kernel)) ggX6_setOfKind_X6_itemsThatGoInto
set_option maxRecDepth 20000 in
theorem ggX6_setOfKind_X6_itemsWithNearIn : GoodIn wsX6_setOfKind wsX6_itemsWithNearIn := goodIn_r _ [42, 8, 1, 43, 44, 45, 46, 47, 48, 49, 50, 51, 52, 53, 54, 55, 56, 57] (by decide +kernel) (by decide +kernel)
set_option maxRecDepth 20000 in
theorem gX6_setOfKind_X6_itemsWithNearIn : GoodIn wsX6_setOfKind (wsV RX6 98 RX6 yX6_itemsWithNearIn wsX6_itemsWithNearIn) := goodIn_app (goodIn_of _ (by decide +kernel)) ggX6_setOfKind_X6_itemsWithNearIn
theorem dX6_setOfKind_0 : decode cX6_setOfKind 0 = .ok (.iload_n 2, 1) := by decide +kernel
theorem dX6_setOfKind_1 : decode cX6_setOfKind 1 = .ok (.tableswitch 116 0 5 #[39, 58, 81, 87, 99, 104], 39) := by decide +kernel
theorem dX6_setOfKind_40 : decode cX6_setOfKind 40 = .ok (.aload_n 0, 1) := by decide +kernel
theorem dX6_setOfKind_41 : decode cX6_setOfKind 41 = .ok (.iload_n 3, 1) := by decide +kernel
theorem dX6_setOfKind_42 : decode cX6_setOfKind 42 = .ok (.invokevirtual 71, 3) := by decide +kernel
theorem dX6_setOfKind_45 : decode cX6_setOfKind 45 = .ok (.ifCond .eq 12, 3) := by decide +kernel
theorem dX6_setOfKind_48 : decode cX6_setOfKind 48 = .ok (.aload_n 0, 1) := by decide +kernel
theorem dX6_setOfKind_49 : decode cX6_setOfKind 49 = .ok (.getfield 15, 3) := by decide +kernel
theorem dX6_setOfKind_52 : decode cX6_setOfKind 52 = .ok (.iload_n 3, 1) := by decide +kernel
theorem dX6_setOfKind_53 : decode cX6_setOfKind 53 = .ok (.iaload, 1) := by decide +kernel
theorem dX6_setOfKind_54 : decode cX6_setOfKind 54 = .ok (.goto 4, 3) := by decide +kernel
theorem dX6_setOfKind_57 : decode cX6_setOfKind 57 = .ok (.iconst 0, 1) := by decide +kernel
theorem dX6_setOfKind_58 : decode cX6_setOfKind 58 = .ok (.ireturn, 1) := by decide +kernel
theorem dX6_setOfKind_59 : decode cX6_setOfKind 59 = .ok (.aload_n 0, 1) := by decide +kernel
theorem dX6_setOfKind_60 : decode cX6_setOfKind 60 = .ok (.iload_n 3, 1) := by decide +kernel
theorem dX6_setOfKind_61 : decode cX6_setOfKind 61 = .ok (.invokevirtual 71, 3) := by decide +kernel
theorem dX6_setOfKind_64 : decode cX6_setOfKind 64 = .ok (.ifCond .eq 16, 3) := by decide +kernel
theorem dX6_setOfKind_67 : decode cX6_setOfKind 67 = .ok (.aload_n 0, 1) := by decide +kernel
theorem dX6_setOfKind_68 : decode cX6_setOfKind 68 = .ok (.getfield 15, 3) := by decide +kernel
theorem dX6_setOfKind_71 : decode cX6_setOfKind 71 = .ok (.iload_n 3, 1) := by decide +kernel
theorem dX6_setOfKind_72 : decode cX6_setOfKind 72 = .ok (.iaload, 1) := by decide +kernel
theorem dX6_setOfKind_73 : decode cX6_setOfKind 73 = .ok (.iconst 1, 1) := by decide +kernel
theorem dX6_setOfKind_74 : decode cX6_setOfKind 74 = .ok (.iload_n 3, 1) := by decide +kernel
theorem dX6_setOfKind_75 : decode cX6_setOfKind 75 = .ok (.ishl, 1) := by decide +kernel
theorem dX6_setOfKind_76 : decode cX6_setOfKind 76 = .ok (.ior, 1) := by decide +kernel
theorem dX6_setOfKind_77 : decode cX6_setOfKind 77 = .ok (.goto 4, 3) := by decide +kernel
theorem dX6_setOfKind_80 : decode cX6_setOfKind 80 = .ok (.iconst 0, 1) := by decide +kernel
theorem dX6_setOfKind_81 : decode cX6_setOfKind 81 = .ok (.ireturn, 1) := by decide +kernel
theorem dX6_setOfKind_82 : decode cX6_setOfKind 82 = .ok (.aload_n 0, 1) := by decide +kernel
theorem dX6_setOfKind_83 : decode cX6_setOfKind 83 = .ok (.iload_n 3, 1) := by decide +kernel
theorem dX6_setOfKind_84 : decode cX6_setOfKind 84 = .ok (.invokevirtual 88, 3) := by decide +kernel
theorem dX6_setOfKind_87 : decode cX6_setOfKind 87 = .ok (.ireturn, 1) := by decide +kernel
theorem dX6_setOfKind_88 : decode cX6_setOfKind 88 = .ok (.aload_n 0, 1) := by decide +kernel
theorem dX6_setOfKind_89 : decode cX6_setOfKind 89 = .ok (.iload_n 3, 1) := by decide +kernel
theorem dX6_setOfKind_90 : decode cX6_setOfKind 90 = .ok (.aload_n 1, 1) := by decide +kernel
theorem dX6_setOfKind_91 : decode cX6_setOfKind 91 = .ok (.iload 4, 2) := by decide +kernel
theorem dX6_setOfKind_93 : decode cX6_setOfKind 93 = .ok (.invokevirtual 91, 3) := by decide +kernel
theorem dX6_setOfKind_96 : decode cX6_setOfKind 96 = .ok (.invokevirtual 94, 3) := by decide +kernel
theorem dX6_setOfKind_99 : decode cX6_setOfKind 99 = .ok (.ireturn, 1) := by decide +kernel
theorem dX6_setOfKind_100 : decode cX6_setOfKind 100 = .ok (.aload_n 0, 1) := by decide +kernel
theorem dX6_setOfKind_101 : decode cX6_setOfKind 101 = .ok (.getfield 48, 3) := by decide +kernel
theorem dX6_setOfKind_104 : decode cX6_setOfKind 104 = .ok (.ireturn, 1) := by decide +kernel
theorem dX6_setOfKind_105 : decode cX6_setOfKind 105 = .ok (.aload_n 0, 1) := by decide +kernel
theorem dX6_setOfKind_106 : decode cX6_setOfKind 106 = .ok (.aload_n 1, 1) := by decide +kernel
theorem dX6_setOfKind_107 : decode cX6_setOfKind 107 = .ok (.iload_n 3, 1) := by decide +kernel
theorem dX6_setOfKind_108 : decode cX6_setOfKind 108 = .ok (.invokevirtual 91, 3) := by decide +kernel
theorem dX6_setOfKind_111 : decode cX6_setOfKind 111 = .ok (.iload 4, 2) := by decide +kernel
theorem dX6_setOfKind_113 : decode cX6_setOfKind 113 = .ok (.invokevirtual 98, 3) := by decide +kernel
theorem dX6_setOfKind_116 : decode cX6_setOfKind 116 = .ok (.ireturn, 1) := by decide +kernel
theorem dX6_setOfKind_117 : decode cX6_setOfKind 117 = .ok (.iconst 0, 1) := by decide +kernel
theorem dX6_setOfKind_118 : decode cX6_setOfKind 118 = .ok (.ireturn, 1) := by decide +kernel
theorem dX6_itemsWithColumn_0 : decode cX6_itemsWithColumn 0 = .ok (.iconst 0, 1) := by decide +kernel
theorem dX6_itemsWithColumn_1 : decode cX6_itemsWithColumn 1 = .ok (.istore_n 2, 1) := by decide +kernel
theorem dX6_itemsWithColumn_2 : decode cX6_itemsWithColumn 2 = .ok (.iconst 0, 1) := by decide +kernel
theorem dX6_itemsWithColumn_3 : decode cX6_itemsWithColumn 3 = .ok (.istore_n 3, 1) := by decide +kernel
theorem dX6_itemsWithColumn_4 : decode cX6_itemsWithColumn 4 = .ok (.iload_n 3, 1) := by decide +kernel
theorem dX6_itemsWithColumn_5 : decode cX6_itemsWithColumn 5 = .ok (.aload_n 0, 1) := by decide +kernel
theorem dX6_itemsWithColumn_6 : decode cX6_itemsWithColumn 6 = .ok (.getfield 32, 3) := by decide +kernel
theorem dX6_itemsWithColumn_9 : decode cX6_itemsWithColumn 9 = .ok (.if_icmp .ge 24, 3) := by decide +kernel
theorem dX6_itemsWithColumn_12 : decode cX6_itemsWithColumn 12 = .ok (.iload_n 2, 1) := by decide +kernel
theorem dX6_itemsWithColumn_13 : decode cX6_itemsWithColumn 13 = .ok (.aload_n 0, 1) := by decide +kernel
theorem dX6_itemsWithColumn_14 : decode cX6_itemsWithColumn 14 = .ok (.getfield 9, 3) := by decide +kernel
theorem dX6_itemsWithColumn_17 : decode cX6_itemsWithColumn 17 = .ok (.iload_n 3, 1) := by decide +kernel
theorem dX6_itemsWithColumn_18 : decode cX6_itemsWithColumn 18 = .ok (.iaload, 1) := by decide +kernel
theorem dX6_itemsWithColumn_19 : decode cX6_itemsWithColumn 19 = .ok (.iload_n 1, 1) := by decide +kernel
theorem dX6_itemsWithColumn_20 : decode cX6_itemsWithColumn 20 = .ok (.ishr, 1) := by decide +kernel
theorem dX6_itemsWithColumn_21 : decode cX6_itemsWithColumn 21 = .ok (.iconst 1, 1) := by decide +kernel
theorem dX6_itemsWithColumn_22 : decode cX6_itemsWithColumn 22 = .ok (.iand, 1) := by decide +kernel
theorem dX6_itemsWithColumn_23 : decode cX6_itemsWithColumn 23 = .ok (.iload_n 3, 1) := by decide +kernel
theorem dX6_itemsWithColumn_24 : decode cX6_itemsWithColumn 24 = .ok (.ishl, 1) := by decide +kernel
theorem dX6_itemsWithColumn_25 : decode cX6_itemsWithColumn 25 = .ok (.ior, 1) := by decide +kernel
theorem dX6_itemsWithColumn_26 : decode cX6_itemsWithColumn 26 = .ok (.istore_n 2, 1) := by decide +kernel
theorem dX6_itemsWithColumn_27 : decode cX6_itemsWithColumn 27 = .ok (.iinc 3 1, 3) := by decide +kernel
theorem dX6_itemsWithColumn_30 : decode cX6_itemsWithColumn 30 = .ok (.goto (-26), 3) := by decide +kernel
theorem dX6_itemsWithColumn_33 : decode cX6_itemsWithColumn 33 = .ok (.iload_n 2, 1) := by decide +kernel
theorem dX6_itemsWithColumn_34 : decode cX6_itemsWithColumn 34 = .ok (.ireturn, 1) := by decide +kernel
set_option maxRecDepth 20000 in
theorem ggX6_itemsThatGoInto_X6_leadsTo : GoodIn wsX6_itemsThatGoInto wsX6_leadsTo := goodIn_r _ [6, 7, 8, 9, 10, 5, 11, 1, 12, 13, 14, 15, 16, 17, 18, 19, 20, 21, 22, 23, 24] (by decide +kernel) (by decide +kernel)
set_option maxRecDepth 20000 in
theorem gX6_itemsThatGoInto_X6_leadsTo : GoodIn wsX6_itemsThatGoInto (wsV RX6 101 RX6 yX6_leadsTo wsX6_leadsTo) := goodIn_app (goodIn_of _ (by decide +kernel)) ggX6_itemsThatGoInto_X6_leadsTo
theorem dX6_itemsThatGoInto_0 : decode cX6_itemsThatGoInto 0 = .ok (.iconst 0, 1) := by decide +kernel
theorem dX6_itemsThatGoInto_1 : decode cX6_itemsThatGoInto 1 = .ok (.istore_n 3, 1) := by decide +kernel
theorem dX6_itemsThatGoInto_2 : decode cX6_itemsThatGoInto 2 = .ok (.iconst 0, 1) := by decide +kernel
theorem dX6_itemsThatGoInto_3 : decode cX6_itemsThatGoInto 3 = .ok (.istore 4, 2) := by decide +kernel
theorem dX6_itemsThatGoInto_5 : decode cX6_itemsThatGoInto 5 = .ok (.iload 4, 2) := by decide +kernel
theorem dX6_itemsThatGoInto_7 : decode cX6_itemsThatGoInto 7 = .ok (.aload_n 0, 1) := by decide +kernel
theorem dX6_itemsThatGoInto_8 : decode cX6_itemsThatGoInto 8 = .ok (.getfield 32, 3) := by decide +kernel
theorem dX6_itemsThatGoInto_11 : decode cX6_itemsThatGoInto 11 = .ok (.if_icmp .ge 26, 3) := by decide +kernel
theorem dX6_itemsThatGoInto_14 : decode cX6_itemsThatGoInto 14 = .ok (.iload_n 3, 1) := by decide +kernel
theorem dX6_itemsThatGoInto_15 : decode cX6_itemsThatGoInto 15 = .ok (.iload_n 2, 1) := by decide +kernel
theorem dX6_itemsThatGoInto_16 : decode cX6_itemsThatGoInto 16 = .ok (.aload_n 0, 1) := by decide +kernel
theorem dX6_itemsThatGoInto_17 : decode cX6_itemsThatGoInto 17 = .ok (.iload 4, 2) := by decide +kernel
theorem dX6_itemsThatGoInto_19 : decode cX6_itemsThatGoInto 19 = .ok (.iload_n 1, 1) := by decide +kernel
theorem dX6_itemsThatGoInto_20 : decode cX6_itemsThatGoInto 20 = .ok (.invokevirtual 101, 3) := by decide +kernel
theorem dX6_itemsThatGoInto_23 : decode cX6_itemsThatGoInto 23 = .ok (.ishr, 1) := by decide +kernel
theorem dX6_itemsThatGoInto_24 : decode cX6_itemsThatGoInto 24 = .ok (.iconst 1, 1) := by decide +kernel
theorem dX6_itemsThatGoInto_25 : decode cX6_itemsThatGoInto 25 = .ok (.iand, 1) := by decide +kernel
theorem dX6_itemsThatGoInto_26 : decode cX6_itemsThatGoInto 26 = .ok (.iload 4, 2) := by decide +kernel
theorem dX6_itemsThatGoInto_28 : decode cX6_itemsThatGoInto 28 = .ok (.ishl, 1) := by decide +kernel
theorem dX6_itemsThatGoInto_29 : decode cX6_itemsThatGoInto 29 = .ok (.ior, 1) := by decide +kernel
theorem dX6_itemsThatGoInto_30 : decode cX6_itemsThatGoInto 30 = .ok (.istore_n 3, 1) := by decide +kernel
theorem dX6_itemsThatGoInto_31 : decode cX6_itemsThatGoInto 31 = .ok (.iinc 4 1, 3) := by decide +kernel
theorem dX6_itemsThatGoInto_34 : decode cX6_itemsThatGoInto 34 = .ok (.goto (-29), 3) := by decide +kernel
theorem dX6_itemsThatGoInto_37 : decode cX6_itemsThatGoInto 37 = .ok (.iload_n 3, 1) := by decide +kernel
theorem dX6_itemsThatGoInto_38 : decode cX6_itemsThatGoInto 38 = .ok (.ireturn, 1) := by decide +kernel
set_option maxRecDepth 20000 in
theorem ggX6_itemsWithNearIn_J6_bitCount_0f7a4 : GoodIn wsX6_itemsWithNearIn wsJ6_bitCount_0f7a4 := goodIn_r _ [6, 7, 8, 9] (by decide +kernel) (by decide +kernel)
set_option maxRecDepth 20000 in
theorem gX6_itemsWithNearIn_J6_bitCount_0f7a4 : GoodIn wsX6_itemsWithNearIn (va_wsS RX6 82 yJ6_bitCount_0f7a4 wsJ6_bitCount_0f7a4) := goodIn_app (goodIn_of _ (by decide +kernel)) ggX6_itemsWithNearIn_J6_bitCount_0f7a4
theorem dX6_itemsWithNearIn_0 : decode cX6_itemsWithNearIn 0 = .ok (.iconst 0, 1) := by decide +kernel
theorem dX6_itemsWithNearIn_1 : decode cX6_itemsWithNearIn 1 = .ok (.istore_n 3, 1) := by decide +kernel
theorem dX6_itemsWithNearIn_2 : decode cX6_itemsWithNearIn 2 = .ok (.iconst 0, 1) := by decide +kernel
theorem dX6_itemsWithNearIn_3 : decode cX6_itemsWithNearIn 3 = .ok (.istore 4, 2) := by decide +kernel
theorem dX6_itemsWithNearIn_5 : decode cX6_itemsWithNearIn 5 = .ok (.iload 4, 2) := by decide +kernel
theorem dX6_itemsWithNearIn_7 : decode cX6_itemsWithNearIn 7 = .ok (.aload_n 0, 1) := by decide +kernel
theorem dX6_itemsWithNearIn_8 : decode cX6_itemsWithNearIn 8 = .ok (.getfield 32, 3) := by decide +kernel
theorem dX6_itemsWithNearIn_11 : decode cX6_itemsWithNearIn 11 = .ok (.if_icmp .ge 32, 3) := by decide +kernel
theorem dX6_itemsWithNearIn_14 : decode cX6_itemsWithNearIn 14 = .ok (.aload_n 0, 1) := by decide +kernel
theorem dX6_itemsWithNearIn_15 : decode cX6_itemsWithNearIn 15 = .ok (.getfield 15, 3) := by decide +kernel
theorem dX6_itemsWithNearIn_18 : decode cX6_itemsWithNearIn 18 = .ok (.iload 4, 2) := by decide +kernel
theorem dX6_itemsWithNearIn_20 : decode cX6_itemsWithNearIn 20 = .ok (.iaload, 1) := by decide +kernel
theorem dX6_itemsWithNearIn_21 : decode cX6_itemsWithNearIn 21 = .ok (.iload_n 1, 1) := by decide +kernel
theorem dX6_itemsWithNearIn_22 : decode cX6_itemsWithNearIn 22 = .ok (.iand, 1) := by decide +kernel
theorem dX6_itemsWithNearIn_23 : decode cX6_itemsWithNearIn 23 = .ok (.invokestatic 82, 3) := by decide +kernel
theorem dX6_itemsWithNearIn_26 : decode cX6_itemsWithNearIn 26 = .ok (.iload_n 2, 1) := by decide +kernel
theorem dX6_itemsWithNearIn_27 : decode cX6_itemsWithNearIn 27 = .ok (.if_icmp .lt 10, 3) := by decide +kernel
theorem dX6_itemsWithNearIn_30 : decode cX6_itemsWithNearIn 30 = .ok (.iload_n 3, 1) := by decide +kernel
theorem dX6_itemsWithNearIn_31 : decode cX6_itemsWithNearIn 31 = .ok (.iconst 1, 1) := by decide +kernel
theorem dX6_itemsWithNearIn_32 : decode cX6_itemsWithNearIn 32 = .ok (.iload 4, 2) := by decide +kernel
theorem dX6_itemsWithNearIn_34 : decode cX6_itemsWithNearIn 34 = .ok (.ishl, 1) := by decide +kernel
theorem dX6_itemsWithNearIn_35 : decode cX6_itemsWithNearIn 35 = .ok (.ior, 1) := by decide +kernel
theorem dX6_itemsWithNearIn_36 : decode cX6_itemsWithNearIn 36 = .ok (.istore_n 3, 1) := by decide +kernel
theorem dX6_itemsWithNearIn_37 : decode cX6_itemsWithNearIn 37 = .ok (.iinc 4 1, 3) := by decide +kernel
theorem dX6_itemsWithNearIn_40 : decode cX6_itemsWithNearIn 40 = .ok (.goto (-35), 3) := by decide +kernel
theorem dX6_itemsWithNearIn_43 : decode cX6_itemsWithNearIn 43 = .ok (.iload_n 3, 1) := by decide +kernel
theorem dX6_itemsWithNearIn_44 : decode cX6_itemsWithNearIn 44 = .ok (.ireturn, 1) := by decide +kernel
set_option maxRecDepth 20000 in
theorem ggX7_init_X5_init : GoodIn wsX7_init wsX5_init := goodIn_r _ [13, 14, 2, 3, 4, 15, 16, 20, 21] (by decide +kernel) (by decide +kernel)
set_option maxRecDepth 20000 in
theorem gX7_init_X5_init : GoodIn wsX7_init (wsX5_init) := ggX7_init_X5_init
theorem dX7_init_0 : decode cX7_init 0 = .ok (.aload_n 0, 1) := by decide +kernel
theorem dX7_init_1 : decode cX7_init 1 = .ok (.invokespecial 3, 3) := by decide +kernel
theorem dX7_init_4 : decode cX7_init 4 = .ok (.aload_n 0, 1) := by decide +kernel
theorem dX7_init_5 : decode cX7_init 5 = .ok (.bipush 12, 2) := by decide +kernel
theorem dX7_init_7 : decode cX7_init 7 = .ok (.newarray .int, 2) := by decide +kernel
theorem dX7_init_9 : decode cX7_init 9 = .ok (.putfield 9, 3) := by decide +kernel
theorem dX7_init_12 : decode cX7_init 12 = .ok (.aload_n 0, 1) := by decide +kernel
theorem dX7_init_13 : decode cX7_init 13 = .ok (.new 15, 3) := by decide +kernel
theorem dX7_init_16 : decode cX7_init 16 = .ok (.dup, 1) := by decide +kernel
theorem dX7_init_17 : decode cX7_init 17 = .ok (.invokespecial 17, 3) := by decide +kernel
theorem dX7_init_20 : decode cX7_init 20 = .ok (.putfield 18, 3) := by decide +kernel
theorem dX7_init_23 : decode cX7_init 23 = .ok (.aload_n 0, 1) := by decide +kernel
theorem dX7_init_24 : decode cX7_init 24 = .ok (.bipush 12, 2) := by decide +kernel
theorem dX7_init_26 : decode cX7_init 26 = .ok (.newarray .int, 2) := by decide +kernel
theorem dX7_init_28 : decode cX7_init 28 = .ok (.putfield 22, 3) := by decide +kernel
theorem dX7_init_31 : decode cX7_init 31 = .ok (.return_, 1) := by decide +kernel
set_option maxRecDepth 20000 in
theorem ggX7_walkFrom_X6_all : GoodIn wsX7_walkFrom wsX6_all := goodIn_r _ [10, 11, 50, 51, 52, 53, 54, 55, 56, 57] (by decide +kernel) (by decide +kernel)
set_option maxRecDepth 20000 in
theorem gX7_walkFrom_X6_all : GoodIn wsX7_walkFrom (wsV RX7 25 RX6 yX6_all wsX6_all) := goodIn_app (goodIn_of _ (by decide +kernel)) ggX7_walkFrom_X6_all
set_option maxRecDepth 20000 in
theorem ggX7_walkFrom_X5_gather : GoodIn wsX7_walkFrom wsX5_gather := goodIn_r _ [16, 17, 18, 58, 59] (by decide +kernel) (by decide +kernel)
set_option maxRecDepth 20000 in
theorem gX7_walkFrom_X5_gather : GoodIn wsX7_walkFrom (wsV RX7 31 RX5 yX5_gather wsX5_gather) := goodIn_app (goodIn_of _ (by decide +kernel)) ggX7_walkFrom_X5_gather
set_option maxRecDepth 20000 in
theorem ggX7_walkFrom_X5_cutBy : GoodIn wsX7_walkFrom wsX5_cutBy := goodIn_r _ [22, 18, 17, 23, 24, 25, 15, 26, 58, 59] (by decide +kernel) (by decide +kernel)
set_option maxRecDepth 20000 in
theorem gX7_walkFrom_X5_cutBy : GoodIn wsX7_walkFrom (wsV RX7 35 RX5 yX5_cutBy wsX5_cutBy) := goodIn_app (goodIn_of _ (by decide +kernel)) ggX7_walkFrom_X5_cutBy
set_option maxRecDepth 20000 in
theorem ggX7_walkFrom_X5_takeLeast : GoodIn wsX7_walkFrom wsX5_takeLeast := goodIn_r _ [30, 18, 17, 31, 32, 15, 33, 34, 35, 36, 37, 38, 39, 40, 41, 42, 58, 59] (by decide +kernel) (by decide +kernel)
set_option maxRecDepth 20000 in
theorem gX7_walkFrom_X5_takeLeast : GoodIn wsX7_walkFrom (wsV RX7 42 RX5 yX5_takeLeast wsX5_takeLeast) := goodIn_app (goodIn_of _ (by decide +kernel)) ggX7_walkFrom_X5_takeLeast
set_option maxRecDepth 20000 in
theorem ggX7_walkFrom_X6_hasItem : GoodIn wsX7_walkFrom wsX6_hasItem := goodIn_r _ [46, 11, 50, 51, 52, 53, 54, 55, 56, 57] (by decide +kernel) (by decide +kernel)
set_option maxRecDepth 20000 in
theorem gX7_walkFrom_X6_hasItem : GoodIn wsX7_walkFrom (wsV RX7 45 RX6 yX6_hasItem wsX6_hasItem) := goodIn_app (goodIn_of _ (by decide +kernel)) ggX7_walkFrom_X6_hasItem
theorem dX7_walkFrom_0 : decode cX7_walkFrom 0 = .ok (.aload_n 0, 1) := by decide +kernel
theorem dX7_walkFrom_1 : decode cX7_walkFrom 1 = .ok (.getfield 18, 3) := by decide +kernel
theorem dX7_walkFrom_4 : decode cX7_walkFrom 4 = .ok (.aload_n 1, 1) := by decide +kernel
theorem dX7_walkFrom_5 : decode cX7_walkFrom 5 = .ok (.invokevirtual 25, 3) := by decide +kernel
theorem dX7_walkFrom_8 : decode cX7_walkFrom 8 = .ok (.invokevirtual 31, 3) := by decide +kernel
theorem dX7_walkFrom_11 : decode cX7_walkFrom 11 = .ok (.aload_n 0, 1) := by decide +kernel
theorem dX7_walkFrom_12 : decode cX7_walkFrom 12 = .ok (.getfield 18, 3) := by decide +kernel
theorem dX7_walkFrom_15 : decode cX7_walkFrom 15 = .ok (.iconst 1, 1) := by decide +kernel
theorem dX7_walkFrom_16 : decode cX7_walkFrom 16 = .ok (.iload_n 2, 1) := by decide +kernel
theorem dX7_walkFrom_17 : decode cX7_walkFrom 17 = .ok (.ishl, 1) := by decide +kernel
theorem dX7_walkFrom_18 : decode cX7_walkFrom 18 = .ok (.invokevirtual 35, 3) := by decide +kernel
theorem dX7_walkFrom_21 : decode cX7_walkFrom 21 = .ok (.iconst 0, 1) := by decide +kernel
theorem dX7_walkFrom_22 : decode cX7_walkFrom 22 = .ok (.istore_n 3, 1) := by decide +kernel
theorem dX7_walkFrom_23 : decode cX7_walkFrom 23 = .ok (.iconst 0, 1) := by decide +kernel
theorem dX7_walkFrom_24 : decode cX7_walkFrom 24 = .ok (.istore 4, 2) := by decide +kernel
theorem dX7_walkFrom_26 : decode cX7_walkFrom 26 = .ok (.iload 4, 2) := by decide +kernel
theorem dX7_walkFrom_28 : decode cX7_walkFrom 28 = .ok (.aload_n 1, 1) := by decide +kernel
theorem dX7_walkFrom_29 : decode cX7_walkFrom 29 = .ok (.getfield 38, 3) := by decide +kernel
theorem dX7_walkFrom_32 : decode cX7_walkFrom 32 = .ok (.if_icmp .ge 68, 3) := by decide +kernel
theorem dX7_walkFrom_35 : decode cX7_walkFrom 35 = .ok (.aload_n 0, 1) := by decide +kernel
theorem dX7_walkFrom_36 : decode cX7_walkFrom 36 = .ok (.getfield 18, 3) := by decide +kernel
theorem dX7_walkFrom_39 : decode cX7_walkFrom 39 = .ok (.invokevirtual 42, 3) := by decide +kernel
theorem dX7_walkFrom_42 : decode cX7_walkFrom 42 = .ok (.istore 5, 2) := by decide +kernel
theorem dX7_walkFrom_44 : decode cX7_walkFrom 44 = .ok (.aload_n 1, 1) := by decide +kernel
theorem dX7_walkFrom_45 : decode cX7_walkFrom 45 = .ok (.iload 5, 2) := by decide +kernel
theorem dX7_walkFrom_47 : decode cX7_walkFrom 47 = .ok (.invokevirtual 45, 3) := by decide +kernel
theorem dX7_walkFrom_50 : decode cX7_walkFrom 50 = .ok (.ifCond .ne 6, 3) := by decide +kernel
theorem dX7_walkFrom_53 : decode cX7_walkFrom 53 = .ok (.goto 47, 3) := by decide +kernel
theorem dX7_walkFrom_56 : decode cX7_walkFrom 56 = .ok (.aload_n 0, 1) := by decide +kernel
theorem dX7_walkFrom_57 : decode cX7_walkFrom 57 = .ok (.getfield 9, 3) := by decide +kernel
theorem dX7_walkFrom_60 : decode cX7_walkFrom 60 = .ok (.iload 4, 2) := by decide +kernel
theorem dX7_walkFrom_62 : decode cX7_walkFrom 62 = .ok (.iload 5, 2) := by decide +kernel
theorem dX7_walkFrom_64 : decode cX7_walkFrom 64 = .ok (.iastore, 1) := by decide +kernel
theorem dX7_walkFrom_65 : decode cX7_walkFrom 65 = .ok (.aload_n 0, 1) := by decide +kernel
theorem dX7_walkFrom_66 : decode cX7_walkFrom 66 = .ok (.getfield 22, 3) := by decide +kernel
theorem dX7_walkFrom_69 : decode cX7_walkFrom 69 = .ok (.iload 4, 2) := by decide +kernel
theorem dX7_walkFrom_71 : decode cX7_walkFrom 71 = .ok (.iload_n 3, 1) := by decide +kernel
theorem dX7_walkFrom_72 : decode cX7_walkFrom 72 = .ok (.iastore, 1) := by decide +kernel
theorem dX7_walkFrom_73 : decode cX7_walkFrom 73 = .ok (.iload_n 3, 1) := by decide +kernel
theorem dX7_walkFrom_74 : decode cX7_walkFrom 74 = .ok (.iconst 1, 1) := by decide +kernel
theorem dX7_walkFrom_75 : decode cX7_walkFrom 75 = .ok (.iload 5, 2) := by decide +kernel
theorem dX7_walkFrom_77 : decode cX7_walkFrom 77 = .ok (.ishl, 1) := by decide +kernel
theorem dX7_walkFrom_78 : decode cX7_walkFrom 78 = .ok (.ior, 1) := by decide +kernel
theorem dX7_walkFrom_79 : decode cX7_walkFrom 79 = .ok (.istore_n 3, 1) := by decide +kernel
theorem dX7_walkFrom_80 : decode cX7_walkFrom 80 = .ok (.aload_n 0, 1) := by decide +kernel
theorem dX7_walkFrom_81 : decode cX7_walkFrom 81 = .ok (.getfield 18, 3) := by decide +kernel
theorem dX7_walkFrom_84 : decode cX7_walkFrom 84 = .ok (.aload_n 1, 1) := by decide +kernel
theorem dX7_walkFrom_85 : decode cX7_walkFrom 85 = .ok (.getfield 49, 3) := by decide +kernel
theorem dX7_walkFrom_88 : decode cX7_walkFrom 88 = .ok (.iload 5, 2) := by decide +kernel
theorem dX7_walkFrom_90 : decode cX7_walkFrom 90 = .ok (.iaload, 1) := by decide +kernel
theorem dX7_walkFrom_91 : decode cX7_walkFrom 91 = .ok (.invokevirtual 35, 3) := by decide +kernel
theorem dX7_walkFrom_94 : decode cX7_walkFrom 94 = .ok (.iinc 4 1, 3) := by decide +kernel
theorem dX7_walkFrom_97 : decode cX7_walkFrom 97 = .ok (.goto (-71), 3) := by decide +kernel
theorem dX7_walkFrom_100 : decode cX7_walkFrom 100 = .ok (.return_, 1) := by decide +kernel
theorem dX7_nearAhead_0 : decode cX7_nearAhead 0 = .ok (.aload_n 1, 1) := by decide +kernel
theorem dX7_nearAhead_1 : decode cX7_nearAhead 1 = .ok (.getfield 49, 3) := by decide +kernel
theorem dX7_nearAhead_4 : decode cX7_nearAhead 4 = .ok (.aload_n 0, 1) := by decide +kernel
theorem dX7_nearAhead_5 : decode cX7_nearAhead 5 = .ok (.getfield 9, 3) := by decide +kernel
theorem dX7_nearAhead_8 : decode cX7_nearAhead 8 = .ok (.iload_n 2, 1) := by decide +kernel
theorem dX7_nearAhead_9 : decode cX7_nearAhead 9 = .ok (.iaload, 1) := by decide +kernel
theorem dX7_nearAhead_10 : decode cX7_nearAhead 10 = .ok (.iaload, 1) := by decide +kernel
theorem dX7_nearAhead_11 : decode cX7_nearAhead 11 = .ok (.aload_n 0, 1) := by decide +kernel
theorem dX7_nearAhead_12 : decode cX7_nearAhead 12 = .ok (.getfield 22, 3) := by decide +kernel
theorem dX7_nearAhead_15 : decode cX7_nearAhead 15 = .ok (.iload_n 2, 1) := by decide +kernel
theorem dX7_nearAhead_16 : decode cX7_nearAhead 16 = .ok (.iaload, 1) := by decide +kernel
theorem dX7_nearAhead_17 : decode cX7_nearAhead 17 = .ok (.iand, 1) := by decide +kernel
theorem dX7_nearAhead_18 : decode cX7_nearAhead 18 = .ok (.ireturn, 1) := by decide +kernel
set_option maxRecDepth 20000 in
theorem ggX7_fault_X7_nearAhead : GoodIn wsX7_fault wsX7_nearAhead := goodIn_r _ [8, 2, 3, 9, 14, 15, 16, 17, 18, 19, 20, 21, 22, 23, 24] (by decide +kernel) (by decide +kernel)
set_option maxRecDepth 20000 in
theorem gX7_fault_X7_nearAhead : GoodIn wsX7_fault (wsV RX7 52 RX7 yX7_nearAhead wsX7_nearAhead) := goodIn_app (goodIn_of _ (by decide +kernel)) ggX7_fault_X7_nearAhead
set_option maxRecDepth 20000 in
theorem ggX7_fault_X7_lastOf : GoodIn wsX7_fault wsX7_lastOf := goodIn_r _ [13, 3, 22, 23, 24] (by decide +kernel) (by decide +kernel)
set_option maxRecDepth 20000 in
theorem gX7_fault_X7_lastOf : GoodIn wsX7_fault (wsV RX7 56 RX7 yX7_lastOf wsX7_lastOf) := goodIn_app (goodIn_of _ (by decide +kernel)) ggX7_fault_X7_lastOf
theorem dX7_fault_0 : decode cX7_fault 0 = .ok (.iconst 0, 1) := by decide +kernel
theorem dX7_fault_1 : decode cX7_fault 1 = .ok (.istore_n 2, 1) := by decide +kernel
theorem dX7_fault_2 : decode cX7_fault 2 = .ok (.iload_n 2, 1) := by decide +kernel
theorem dX7_fault_3 : decode cX7_fault 3 = .ok (.aload_n 1, 1) := by decide +kernel
theorem dX7_fault_4 : decode cX7_fault 4 = .ok (.getfield 38, 3) := by decide +kernel
theorem dX7_fault_7 : decode cX7_fault 7 = .ok (.if_icmp .ge 58, 3) := by decide +kernel
theorem dX7_fault_10 : decode cX7_fault 10 = .ok (.aload_n 0, 1) := by decide +kernel
theorem dX7_fault_11 : decode cX7_fault 11 = .ok (.aload_n 1, 1) := by decide +kernel
theorem dX7_fault_12 : decode cX7_fault 12 = .ok (.iload_n 2, 1) := by decide +kernel
theorem dX7_fault_13 : decode cX7_fault 13 = .ok (.invokevirtual 52, 3) := by decide +kernel
theorem dX7_fault_16 : decode cX7_fault 16 = .ok (.istore_n 3, 1) := by decide +kernel
theorem dX7_fault_17 : decode cX7_fault 17 = .ok (.aload_n 0, 1) := by decide +kernel
theorem dX7_fault_18 : decode cX7_fault 18 = .ok (.iload_n 3, 1) := by decide +kernel
theorem dX7_fault_19 : decode cX7_fault 19 = .ok (.iload_n 2, 1) := by decide +kernel
theorem dX7_fault_20 : decode cX7_fault 20 = .ok (.invokevirtual 56, 3) := by decide +kernel
theorem dX7_fault_23 : decode cX7_fault 23 = .ok (.istore 4, 2) := by decide +kernel
theorem dX7_fault_25 : decode cX7_fault 25 = .ok (.iload 4, 2) := by decide +kernel
theorem dX7_fault_27 : decode cX7_fault 27 = .ok (.iconst (-1), 1) := by decide +kernel
theorem dX7_fault_28 : decode cX7_fault 28 = .ok (.if_icmp .eq 31, 3) := by decide +kernel
theorem dX7_fault_31 : decode cX7_fault 31 = .ok (.iload_n 3, 1) := by decide +kernel
theorem dX7_fault_32 : decode cX7_fault 32 = .ok (.iconst 1, 1) := by decide +kernel
theorem dX7_fault_33 : decode cX7_fault 33 = .ok (.iload 4, 2) := by decide +kernel
theorem dX7_fault_35 : decode cX7_fault 35 = .ok (.ishl, 1) := by decide +kernel
theorem dX7_fault_36 : decode cX7_fault 36 = .ok (.iconst (-1), 1) := by decide +kernel
theorem dX7_fault_37 : decode cX7_fault 37 = .ok (.ixor, 1) := by decide +kernel
theorem dX7_fault_38 : decode cX7_fault 38 = .ok (.iand, 1) := by decide +kernel
theorem dX7_fault_39 : decode cX7_fault 39 = .ok (.aload_n 1, 1) := by decide +kernel
theorem dX7_fault_40 : decode cX7_fault 40 = .ok (.getfield 49, 3) := by decide +kernel
theorem dX7_fault_43 : decode cX7_fault 43 = .ok (.iload 4, 2) := by decide +kernel
theorem dX7_fault_45 : decode cX7_fault 45 = .ok (.iaload, 1) := by decide +kernel
theorem dX7_fault_46 : decode cX7_fault 46 = .ok (.iconst (-1), 1) := by decide +kernel
theorem dX7_fault_47 : decode cX7_fault 47 = .ok (.ixor, 1) := by decide +kernel
theorem dX7_fault_48 : decode cX7_fault 48 = .ok (.iand, 1) := by decide +kernel
theorem dX7_fault_49 : decode cX7_fault 49 = .ok (.ifCond .eq 10, 3) := by decide +kernel
theorem dX7_fault_52 : decode cX7_fault 52 = .ok (.aload_n 0, 1) := by decide +kernel
theorem dX7_fault_53 : decode cX7_fault 53 = .ok (.getfield 9, 3) := by decide +kernel
theorem dX7_fault_56 : decode cX7_fault 56 = .ok (.iload_n 2, 1) := by decide +kernel
theorem dX7_fault_57 : decode cX7_fault 57 = .ok (.iaload, 1) := by decide +kernel
theorem dX7_fault_58 : decode cX7_fault 58 = .ok (.ireturn, 1) := by decide +kernel
theorem dX7_fault_59 : decode cX7_fault 59 = .ok (.iinc 2 1, 3) := by decide +kernel
theorem dX7_fault_62 : decode cX7_fault 62 = .ok (.goto (-60), 3) := by decide +kernel
theorem dX7_fault_65 : decode cX7_fault 65 = .ok (.iconst (-1), 1) := by decide +kernel
theorem dX7_fault_66 : decode cX7_fault 66 = .ok (.ireturn, 1) := by decide +kernel
theorem dX7_lastOf_0 : decode cX7_lastOf 0 = .ok (.iload_n 2, 1) := by decide +kernel
theorem dX7_lastOf_1 : decode cX7_lastOf 1 = .ok (.iconst 1, 1) := by decide +kernel
theorem dX7_lastOf_2 : decode cX7_lastOf 2 = .ok (.isub, 1) := by decide +kernel
theorem dX7_lastOf_3 : decode cX7_lastOf 3 = .ok (.istore_n 3, 1) := by decide +kernel
theorem dX7_lastOf_4 : decode cX7_lastOf 4 = .ok (.iload_n 3, 1) := by decide +kernel
theorem dX7_lastOf_5 : decode cX7_lastOf 5 = .ok (.ifCond .lt 29, 3) := by decide +kernel
theorem dX7_lastOf_8 : decode cX7_lastOf 8 = .ok (.iload_n 1, 1) := by decide +kernel
theorem dX7_lastOf_9 : decode cX7_lastOf 9 = .ok (.aload_n 0, 1) := by decide +kernel
theorem dX7_lastOf_10 : decode cX7_lastOf 10 = .ok (.getfield 9, 3) := by decide +kernel
theorem dX7_lastOf_13 : decode cX7_lastOf 13 = .ok (.iload_n 3, 1) := by decide +kernel
theorem dX7_lastOf_14 : decode cX7_lastOf 14 = .ok (.iaload, 1) := by decide +kernel
theorem dX7_lastOf_15 : decode cX7_lastOf 15 = .ok (.ishr, 1) := by decide +kernel
theorem dX7_lastOf_16 : decode cX7_lastOf 16 = .ok (.iconst 1, 1) := by decide +kernel
theorem dX7_lastOf_17 : decode cX7_lastOf 17 = .ok (.iand, 1) := by decide +kernel
theorem dX7_lastOf_18 : decode cX7_lastOf 18 = .ok (.ifCond .eq 10, 3) := by decide +kernel
theorem dX7_lastOf_21 : decode cX7_lastOf 21 = .ok (.aload_n 0, 1) := by decide +kernel
theorem dX7_lastOf_22 : decode cX7_lastOf 22 = .ok (.getfield 9, 3) := by decide +kernel
theorem dX7_lastOf_25 : decode cX7_lastOf 25 = .ok (.iload_n 3, 1) := by decide +kernel
theorem dX7_lastOf_26 : decode cX7_lastOf 26 = .ok (.iaload, 1) := by decide +kernel
theorem dX7_lastOf_27 : decode cX7_lastOf 27 = .ok (.ireturn, 1) := by decide +kernel
theorem dX7_lastOf_28 : decode cX7_lastOf 28 = .ok (.iinc 3 (-1), 3) := by decide +kernel
theorem dX7_lastOf_31 : decode cX7_lastOf 31 = .ok (.goto (-27), 3) := by decide +kernel
theorem dX7_lastOf_34 : decode cX7_lastOf 34 = .ok (.iconst (-1), 1) := by decide +kernel
theorem dX7_lastOf_35 : decode cX7_lastOf 35 = .ok (.ireturn, 1) := by decide +kernel
set_option maxRecDepth 20000 in
theorem ggX7_clique_X7_nearAhead : GoodIn wsX7_clique wsX7_nearAhead := goodIn_r _ [10, 11, 12, 13, 21, 22, 23, 24, 25, 26, 27, 28, 29, 30, 31] (by decide +kernel) (by decide +kernel)
set_option maxRecDepth 20000 in
theorem gX7_clique_X7_nearAhead : GoodIn wsX7_clique (wsV RX7 52 RX7 yX7_nearAhead wsX7_nearAhead) := goodIn_app (goodIn_of _ (by decide +kernel)) ggX7_clique_X7_nearAhead
set_option maxRecDepth 20000 in
theorem ggX7_clique_J6_bitCount_0f7a4 : GoodIn wsX7_clique wsJ6_bitCount_0f7a4 := goodIn_r _ [17, 18, 19, 20] (by decide +kernel) (by decide +kernel)
set_option maxRecDepth 20000 in
theorem gX7_clique_J6_bitCount_0f7a4 : GoodIn wsX7_clique (va_wsS RX7 60 yJ6_bitCount_0f7a4 wsJ6_bitCount_0f7a4) := goodIn_app (goodIn_of _ (by decide +kernel)) ggX7_clique_J6_bitCount_0f7a4
theorem dX7_clique_0 : decode cX7_clique 0 = .ok (.iconst 0, 1) := by decide +kernel
theorem dX7_clique_1 : decode cX7_clique 1 = .ok (.istore_n 2, 1) := by decide +kernel
theorem dX7_clique_2 : decode cX7_clique 2 = .ok (.iconst 0, 1) := by decide +kernel
theorem dX7_clique_3 : decode cX7_clique 3 = .ok (.istore_n 3, 1) := by decide +kernel
theorem dX7_clique_4 : decode cX7_clique 4 = .ok (.iload_n 3, 1) := by decide +kernel
theorem dX7_clique_5 : decode cX7_clique 5 = .ok (.aload_n 1, 1) := by decide +kernel
theorem dX7_clique_6 : decode cX7_clique 6 = .ok (.getfield 38, 3) := by decide +kernel
theorem dX7_clique_9 : decode cX7_clique 9 = .ok (.if_icmp .ge 25, 3) := by decide +kernel
theorem dX7_clique_12 : decode cX7_clique 12 = .ok (.iload_n 2, 1) := by decide +kernel
theorem dX7_clique_13 : decode cX7_clique 13 = .ok (.iconst 1, 1) := by decide +kernel
theorem dX7_clique_14 : decode cX7_clique 14 = .ok (.aload_n 0, 1) := by decide +kernel
theorem dX7_clique_15 : decode cX7_clique 15 = .ok (.aload_n 1, 1) := by decide +kernel
theorem dX7_clique_16 : decode cX7_clique 16 = .ok (.iload_n 3, 1) := by decide +kernel
theorem dX7_clique_17 : decode cX7_clique 17 = .ok (.invokevirtual 52, 3) := by decide +kernel
theorem dX7_clique_20 : decode cX7_clique 20 = .ok (.invokestatic 60, 3) := by decide +kernel
theorem dX7_clique_23 : decode cX7_clique 23 = .ok (.iadd, 1) := by decide +kernel
theorem dX7_clique_24 : decode cX7_clique 24 = .ok (.invokestatic 66, 3) := by decide +kernel
theorem dX7_clique_27 : decode cX7_clique 27 = .ok (.istore_n 2, 1) := by decide +kernel
theorem dX7_clique_28 : decode cX7_clique 28 = .ok (.iinc 3 1, 3) := by decide +kernel
theorem dX7_clique_31 : decode cX7_clique 31 = .ok (.goto (-27), 3) := by decide +kernel
theorem dX7_clique_34 : decode cX7_clique 34 = .ok (.iload_n 2, 1) := by decide +kernel
theorem dX7_clique_35 : decode cX7_clique 35 = .ok (.ireturn, 1) := by decide +kernel
set_option maxRecDepth 20000 in
theorem ggX8_init_X6_init : GoodIn wsX8_init wsX6_init := goodIn_r _ [38, 39, 2, 3, 40, 41, 42, 43, 44, 29, 30, 45, 46, 47, 48, 49, 50, 51, 52, 53, 54, 6, 55, 56, 57, 58, 59, 60, 61, 62, 63, 64, 65, 66, 67, 68, 69, 70, 71, 72, 73, 74, 75, 76, 77, 78, 79, 80, 81, 82, 83, 84, 85, 86, 87, 135, 136, 137, 138, 139, 140, 141, 142, 164, 165] (by decide +kernel) (by decide +kernel)
set_option maxRecDepth 20000 in
theorem gX8_init_X6_init : GoodIn wsX8_init (wsX6_init) := ggX8_init_X6_init
set_option maxRecDepth 20000 in
theorem ggX8_init_X2_init : GoodIn wsX8_init wsX2_init := goodIn_r _ [90, 91, 2, 3, 92, 93, 5, 6, 94, 95, 96, 37, 38, 39, 40, 41, 42, 43, 44, 29, 30, 45, 46, 47, 48, 49, 50, 51, 52, 53, 54, 55, 56, 57, 58, 59, 60, 61, 62, 63, 64, 65, 66, 67, 68, 69, 70, 71, 72, 73, 74, 75, 76, 77, 78, 79, 80, 81, 82, 83, 84, 85, 86, 87, 151, 152, 153, 135, 136, 137, 138, 139, 140, 141, 142, 164, 165] (by decide +kernel) (by decide +kernel)
set_option maxRecDepth 20000 in
theorem gX8_init_X2_init : GoodIn wsX8_init (wsX2_init) := ggX8_init_X2_init
set_option maxRecDepth 20000 in
theorem ggX8_init_X0_init : GoodIn wsX8_init wsX0_init := goodIn_r _ [99, 100, 2, 3, 40, 101, 102, 103, 154, 155, 156] (by decide +kernel) (by decide +kernel)
set_option maxRecDepth 20000 in
theorem gX8_init_X0_init : GoodIn wsX8_init (wsX0_init) := ggX8_init_X0_init
set_option maxRecDepth 20000 in
theorem ggX8_init_X3_init : GoodIn wsX8_init wsX3_init := goodIn_r _ [106, 107, 2, 3, 108, 109, 110, 5, 6, 111, 112, 37, 38, 39, 40, 41, 42, 43, 44, 29, 30, 45, 46, 47, 48, 49, 50, 51, 52, 53, 54, 55, 56, 57, 58, 59, 60, 61, 62, 63, 64, 65, 66, 67, 68, 69, 70, 71, 72, 73, 74, 75, 76, 77, 78, 79, 80, 81, 82, 83, 84, 85, 86, 87, 157, 158, 159, 135, 136, 137, 138, 139, 140, 141, 142, 164, 165] (by decide +kernel) (by decide +kernel)
set_option maxRecDepth 20000 in
theorem gX8_init_X3_init : GoodIn wsX8_init (wsX3_init) := ggX8_init_X3_init
set_option maxRecDepth 20000 in
theorem ggX8_init_X4_init : GoodIn wsX8_init wsX4_init := goodIn_r _ [115, 116, 2, 3, 117, 29, 30, 118, 119, 47, 48, 49, 40, 50, 51, 164, 165, 160] (by decide +kernel) (by decide +kernel)
set_option maxRecDepth 20000 in
theorem gX8_init_X4_init : GoodIn wsX8_init (wsX4_init) := ggX8_init_X4_init
set_option maxRecDepth 20000 in
theorem ggX8_init_X7_init : GoodIn wsX8_init wsX7_init := goodIn_r _ [122, 123, 2, 3, 40, 124, 125, 29, 30, 126, 127, 128, 47, 48, 49, 50, 51, 161, 162, 163, 164, 165] (by decide +kernel) (by decide +kernel)
set_option maxRecDepth 20000 in
theorem gX8_init_X7_init : GoodIn wsX8_init (wsX7_init) := ggX8_init_X7_init
set_option maxRecDepth 20000 in
theorem ggX8_init_X5_init : GoodIn wsX8_init wsX5_init := goodIn_r _ [48, 49, 2, 3, 40, 50, 51, 164, 165] (by decide +kernel) (by decide +kernel)
set_option maxRecDepth 20000 in
theorem gX8_init_X5_init : GoodIn wsX8_init (wsX5_init) := ggX8_init_X5_init
set_option maxRecDepth 20000 in
theorem ggX8_init_X1_init : GoodIn wsX8_init wsX1_init := goodIn_r _ [132, 133, 2, 3, 134, 166] (by decide +kernel) (by decide +kernel)
set_option maxRecDepth 20000 in
theorem gX8_init_X1_init : GoodIn wsX8_init (wsX1_init) := ggX8_init_X1_init
theorem dX8_init_0 : decode cX8_init 0 = .ok (.aload_n 0, 1) := by decide +kernel
theorem dX8_init_1 : decode cX8_init 1 = .ok (.invokespecial 1, 3) := by decide +kernel
theorem dX8_init_4 : decode cX8_init 4 = .ok (.aload_n 0, 1) := by decide +kernel
theorem dX8_init_5 : decode cX8_init 5 = .ok (.new 7, 3) := by decide +kernel
theorem dX8_init_8 : decode cX8_init 8 = .ok (.dup, 1) := by decide +kernel
theorem dX8_init_9 : decode cX8_init 9 = .ok (.invokespecial 9, 3) := by decide +kernel
theorem dX8_init_12 : decode cX8_init 12 = .ok (.putfield 10, 3) := by decide +kernel
theorem dX8_init_15 : decode cX8_init 15 = .ok (.aload_n 0, 1) := by decide +kernel
theorem dX8_init_16 : decode cX8_init 16 = .ok (.new 16, 3) := by decide +kernel
theorem dX8_init_19 : decode cX8_init 19 = .ok (.dup, 1) := by decide +kernel
theorem dX8_init_20 : decode cX8_init 20 = .ok (.invokespecial 18, 3) := by decide +kernel
theorem dX8_init_23 : decode cX8_init 23 = .ok (.putfield 19, 3) := by decide +kernel
theorem dX8_init_26 : decode cX8_init 26 = .ok (.aload_n 0, 1) := by decide +kernel
theorem dX8_init_27 : decode cX8_init 27 = .ok (.new 23, 3) := by decide +kernel
theorem dX8_init_30 : decode cX8_init 30 = .ok (.dup, 1) := by decide +kernel
theorem dX8_init_31 : decode cX8_init 31 = .ok (.invokespecial 25, 3) := by decide +kernel
theorem dX8_init_34 : decode cX8_init 34 = .ok (.putfield 26, 3) := by decide +kernel
theorem dX8_init_37 : decode cX8_init 37 = .ok (.aload_n 0, 1) := by decide +kernel
theorem dX8_init_38 : decode cX8_init 38 = .ok (.iconst 2, 1) := by decide +kernel
theorem dX8_init_39 : decode cX8_init 39 = .ok (.anewarray 30, 3) := by decide +kernel
theorem dX8_init_42 : decode cX8_init 42 = .ok (.putfield 32, 3) := by decide +kernel
theorem dX8_init_45 : decode cX8_init 45 = .ok (.iconst 0, 1) := by decide +kernel
theorem dX8_init_46 : decode cX8_init 46 = .ok (.istore_n 1, 1) := by decide +kernel
theorem dX8_init_47 : decode cX8_init 47 = .ok (.iload_n 1, 1) := by decide +kernel
theorem dX8_init_48 : decode cX8_init 48 = .ok (.iconst 2, 1) := by decide +kernel
theorem dX8_init_49 : decode cX8_init 49 = .ok (.if_icmp .ge 22, 3) := by decide +kernel
theorem dX8_init_52 : decode cX8_init 52 = .ok (.aload_n 0, 1) := by decide +kernel
theorem dX8_init_53 : decode cX8_init 53 = .ok (.getfield 32, 3) := by decide +kernel
theorem dX8_init_56 : decode cX8_init 56 = .ok (.iload_n 1, 1) := by decide +kernel
theorem dX8_init_57 : decode cX8_init 57 = .ok (.new 30, 3) := by decide +kernel
theorem dX8_init_60 : decode cX8_init 60 = .ok (.dup, 1) := by decide +kernel
theorem dX8_init_61 : decode cX8_init 61 = .ok (.invokespecial 36, 3) := by decide +kernel
theorem dX8_init_64 : decode cX8_init 64 = .ok (.aastore, 1) := by decide +kernel
theorem dX8_init_65 : decode cX8_init 65 = .ok (.iinc 1 1, 3) := by decide +kernel
theorem dX8_init_68 : decode cX8_init 68 = .ok (.goto (-21), 3) := by decide +kernel
theorem dX8_init_71 : decode cX8_init 71 = .ok (.aload_n 0, 1) := by decide +kernel
theorem dX8_init_72 : decode cX8_init 72 = .ok (.new 37, 3) := by decide +kernel
theorem dX8_init_75 : decode cX8_init 75 = .ok (.dup, 1) := by decide +kernel
theorem dX8_init_76 : decode cX8_init 76 = .ok (.invokespecial 39, 3) := by decide +kernel
theorem dX8_init_79 : decode cX8_init 79 = .ok (.putfield 40, 3) := by decide +kernel
theorem dX8_init_82 : decode cX8_init 82 = .ok (.aload_n 0, 1) := by decide +kernel
theorem dX8_init_83 : decode cX8_init 83 = .ok (.new 44, 3) := by decide +kernel
theorem dX8_init_86 : decode cX8_init 86 = .ok (.dup, 1) := by decide +kernel
theorem dX8_init_87 : decode cX8_init 87 = .ok (.invokespecial 46, 3) := by decide +kernel
theorem dX8_init_90 : decode cX8_init 90 = .ok (.putfield 47, 3) := by decide +kernel
theorem dX8_init_93 : decode cX8_init 93 = .ok (.aload_n 0, 1) := by decide +kernel
theorem dX8_init_94 : decode cX8_init 94 = .ok (.new 51, 3) := by decide +kernel
theorem dX8_init_97 : decode cX8_init 97 = .ok (.dup, 1) := by decide +kernel
theorem dX8_init_98 : decode cX8_init 98 = .ok (.invokespecial 53, 3) := by decide +kernel
theorem dX8_init_101 : decode cX8_init 101 = .ok (.putfield 54, 3) := by decide +kernel
theorem dX8_init_104 : decode cX8_init 104 = .ok (.aload_n 0, 1) := by decide +kernel
theorem dX8_init_105 : decode cX8_init 105 = .ok (.new 58, 3) := by decide +kernel
theorem dX8_init_108 : decode cX8_init 108 = .ok (.dup, 1) := by decide +kernel
theorem dX8_init_109 : decode cX8_init 109 = .ok (.invokespecial 60, 3) := by decide +kernel
theorem dX8_init_112 : decode cX8_init 112 = .ok (.putfield 61, 3) := by decide +kernel
theorem dX8_init_115 : decode cX8_init 115 = .ok (.return_, 1) := by decide +kernel
set_option maxRecDepth 20000 in
theorem ggX8_told_X6_edgeCount : GoodIn wsX8_told wsX6_edgeCount := goodIn_r _ [21, 22, 23, 24, 25, 26, 27, 28, 29, 30, 210, 211, 212, 213, 214, 215, 216, 217] (by decide +kernel) (by decide +kernel)
set_option maxRecDepth 20000 in
theorem gX8_told_X6_edgeCount : GoodIn wsX8_told (wsV RX8 78 RX6 yX6_edgeCount wsX6_edgeCount) := goodIn_app (goodIn_of _ (by decide +kernel)) ggX8_told_X6_edgeCount
set_option maxRecDepth 20000 in
theorem ggX8_told_X8_refineAside : GoodIn wsX8_told wsX8_refineAside := goodIn_r _ [35, 8, 1, 36, 37, 38, 39, 20, 40, 22, 41, 42, 43, 44, 45, 46, 47, 48, 49, 50, 51, 52, 53, 54, 55, 56, 57, 58, 59, 60, 61, 62, 63, 64, 65, 66, 67, 68, 69, 70, 71, 72, 73, 74, 75, 76, 77, 78, 79, 80, 81, 82, 83, 84, 85, 86, 87, 88, 89, 90, 91, 92, 93, 94, 95, 96, 97, 98, 99, 100, 101, 102, 103, 104, 105, 106, 107, 108, 109, 110, 111, 25, 26, 27, 28, 29, 30, 112, 113, 114, 115, 23, 24, 116, 117, 118, 119, 120, 121, 122, 123, 124, 125, 126, 127, 128, 129, 130, 131, 132, 133, 134, 135, 136, 137, 138, 139, 140, 141, 142, 143, 144, 202, 203, 204, 205, 206, 207, 208, 209, 210, 211, 212, 213, 214, 215, 216, 217, 218, 219, 227] (by decide +kernel) (by decide +kernel)
set_option maxRecDepth 20000 in
theorem gX8_told_X8_refineAside : GoodIn wsX8_told (wsV RX8 88 RX8 yX8_refineAside wsX8_refineAside) := goodIn_app (goodIn_of _ (by decide +kernel)) ggX8_told_X8_refineAside
set_option maxRecDepth 20000 in
theorem ggX8_told_X7_walkFrom : GoodIn wsX8_told wsX7_walkFrom := goodIn_r _ [149, 150, 151, 152, 153, 154, 155, 38, 39, 20, 40, 22, 156, 42, 43, 44, 45, 46, 47, 157, 55, 56, 57, 58, 59, 60, 61, 158, 159, 160, 161, 120, 121, 122, 123, 124, 26, 125, 126, 162, 163, 164, 165, 166, 99, 100, 101, 228, 229, 230, 210, 211, 212, 213, 214, 215, 216, 217, 218, 219] (by decide +kernel) (by decide +kernel)
set_option maxRecDepth 20000 in
theorem gX8_told_X7_walkFrom : GoodIn wsX8_told (wsV RX8 92 RX7 yX7_walkFrom wsX7_walkFrom) := goodIn_app (goodIn_of _ (by decide +kernel)) ggX8_told_X7_walkFrom
set_option maxRecDepth 20000 in
theorem ggX8_told_X7_fault : GoodIn wsX8_told wsX7_fault := goodIn_r _ [170, 151, 154, 152, 171, 172, 173, 148, 174, 153, 175, 176, 177, 178, 210, 211, 212, 213, 214, 215, 216, 217, 228, 229, 230] (by decide +kernel) (by decide +kernel)
set_option maxRecDepth 20000 in
theorem gX8_told_X7_fault : GoodIn wsX8_told (wsV RX8 96 RX7 yX7_fault wsX7_fault) := goodIn_app (goodIn_of _ (by decide +kernel)) ggX8_told_X7_fault
set_option maxRecDepth 20000 in
theorem ggX8_told_X7_clique : GoodIn wsX8_told wsX7_clique := goodIn_r _ [182, 151, 183, 184, 185, 186, 171, 172, 173, 148, 174, 154, 152, 153, 187, 25, 26, 27, 28, 29, 30, 210, 211, 212, 213, 214, 215, 216, 217, 228, 229, 230] (by decide +kernel) (by decide +kernel)
set_option maxRecDepth 20000 in
theorem gX8_told_X7_clique : GoodIn wsX8_told (wsV RX8 100 RX7 yX7_clique wsX7_clique) := goodIn_app (goodIn_of _ (by decide +kernel)) ggX8_told_X7_clique
set_option maxRecDepth 20000 in
theorem ggX8_told_X0_firstWrong : GoodIn wsX8_told wsX0_firstWrong := goodIn_r _ [192, 193, 194, 195, 196, 197, 99, 100, 20, 101, 22, 198, 199, 200, 44, 201, 47, 46, 220, 221, 222, 210, 211, 212, 213, 214, 215, 216, 217, 218, 219] (by decide +kernel) (by decide +kernel)
set_option maxRecDepth 20000 in
theorem gX8_told_X0_firstWrong : GoodIn wsX8_told (wsV RX8 106 RX0 yX0_firstWrong wsX0_firstWrong) := goodIn_app (goodIn_of _ (by decide +kernel)) ggX8_told_X0_firstWrong
theorem dX8_told_0 : decode cX8_told 0 = .ok (.iload_n 1, 1) := by decide +kernel
theorem dX8_told_1 : decode cX8_told 1 = .ok (.tableswitch 253 0 16 #[83, 91, 102, 110, 118, 126, 134, 134, 134, 134, 134, 150, 174, 217, 225, 237, 245], 83) := by decide +kernel
theorem dX8_told_84 : decode cX8_told 84 = .ok (.aload_n 0, 1) := by decide +kernel
theorem dX8_told_85 : decode cX8_told 85 = .ok (.getfield 10, 3) := by decide +kernel
theorem dX8_told_88 : decode cX8_told 88 = .ok (.getfield 65, 3) := by decide +kernel
theorem dX8_told_91 : decode cX8_told 91 = .ok (.ireturn, 1) := by decide +kernel
theorem dX8_told_92 : decode cX8_told 92 = .ok (.aload_n 0, 1) := by decide +kernel
theorem dX8_told_93 : decode cX8_told 93 = .ok (.getfield 10, 3) := by decide +kernel
theorem dX8_told_96 : decode cX8_told 96 = .ok (.getfield 69, 3) := by decide +kernel
theorem dX8_told_99 : decode cX8_told 99 = .ok (.getfield 72, 3) := by decide +kernel
theorem dX8_told_102 : decode cX8_told 102 = .ok (.ireturn, 1) := by decide +kernel
theorem dX8_told_103 : decode cX8_told 103 = .ok (.aload_n 0, 1) := by decide +kernel
theorem dX8_told_104 : decode cX8_told 104 = .ok (.getfield 10, 3) := by decide +kernel
theorem dX8_told_107 : decode cX8_told 107 = .ok (.getfield 75, 3) := by decide +kernel
theorem dX8_told_110 : decode cX8_told 110 = .ok (.ireturn, 1) := by decide +kernel
theorem dX8_told_111 : decode cX8_told 111 = .ok (.aload_n 0, 1) := by decide +kernel
theorem dX8_told_112 : decode cX8_told 112 = .ok (.getfield 10, 3) := by decide +kernel
theorem dX8_told_115 : decode cX8_told 115 = .ok (.invokevirtual 78, 3) := by decide +kernel
theorem dX8_told_118 : decode cX8_told 118 = .ok (.ireturn, 1) := by decide +kernel
theorem dX8_told_119 : decode cX8_told 119 = .ok (.aload_n 0, 1) := by decide +kernel
theorem dX8_told_120 : decode cX8_told 120 = .ok (.getfield 10, 3) := by decide +kernel
theorem dX8_told_123 : decode cX8_told 123 = .ok (.getfield 82, 3) := by decide +kernel
theorem dX8_told_126 : decode cX8_told 126 = .ok (.ireturn, 1) := by decide +kernel
theorem dX8_told_127 : decode cX8_told 127 = .ok (.aload_n 0, 1) := by decide +kernel
theorem dX8_told_128 : decode cX8_told 128 = .ok (.getfield 10, 3) := by decide +kernel
theorem dX8_told_131 : decode cX8_told 131 = .ok (.getfield 85, 3) := by decide +kernel
theorem dX8_told_134 : decode cX8_told 134 = .ok (.ireturn, 1) := by decide +kernel
end
section
theorem dX8_told_135 : decode cX8_told 135 = .ok (.aload_n 0, 1) := by decide +kernel
theorem dX8_told_136 : decode cX8_told 136 = .ok (.iload_n 1, 1) := by decide +kernel
theorem dX8_told_137 : decode cX8_told 137 = .ok (.bipush 6, 2) := by decide +kernel
theorem dX8_told_139 : decode cX8_told 139 = .ok (.isub, 1) := by decide +kernel
theorem dX8_told_140 : decode cX8_told 140 = .ok (.invokevirtual 88, 3) := by decide +kernel
theorem dX8_told_143 : decode cX8_told 143 = .ok (.aload_n 0, 1) := by decide +kernel
theorem dX8_told_144 : decode cX8_told 144 = .ok (.getfield 54, 3) := by decide +kernel
theorem dX8_told_147 : decode cX8_told 147 = .ok (.getfield 72, 3) := by decide +kernel
theorem dX8_told_150 : decode cX8_told 150 = .ok (.ireturn, 1) := by decide +kernel
theorem dX8_told_151 : decode cX8_told 151 = .ok (.aload_n 0, 1) := by decide +kernel
theorem dX8_told_152 : decode cX8_told 152 = .ok (.getfield 47, 3) := by decide +kernel
theorem dX8_told_155 : decode cX8_told 155 = .ok (.aload_n 0, 1) := by decide +kernel
theorem dX8_told_156 : decode cX8_told 156 = .ok (.getfield 10, 3) := by decide +kernel
theorem dX8_told_159 : decode cX8_told 159 = .ok (.iconst 0, 1) := by decide +kernel
theorem dX8_told_160 : decode cX8_told 160 = .ok (.invokevirtual 92, 3) := by decide +kernel
theorem dX8_told_163 : decode cX8_told 163 = .ok (.aload_n 0, 1) := by decide +kernel
theorem dX8_told_164 : decode cX8_told 164 = .ok (.getfield 47, 3) := by decide +kernel
theorem dX8_told_167 : decode cX8_told 167 = .ok (.aload_n 0, 1) := by decide +kernel
theorem dX8_told_168 : decode cX8_told 168 = .ok (.getfield 10, 3) := by decide +kernel
theorem dX8_told_171 : decode cX8_told 171 = .ok (.invokevirtual 96, 3) := by decide +kernel
theorem dX8_told_174 : decode cX8_told 174 = .ok (.ireturn, 1) := by decide +kernel
theorem dX8_told_175 : decode cX8_told 175 = .ok (.aload_n 0, 1) := by decide +kernel
theorem dX8_told_176 : decode cX8_told 176 = .ok (.getfield 47, 3) := by decide +kernel
theorem dX8_told_179 : decode cX8_told 179 = .ok (.aload_n 0, 1) := by decide +kernel
theorem dX8_told_180 : decode cX8_told 180 = .ok (.getfield 10, 3) := by decide +kernel
theorem dX8_told_183 : decode cX8_told 183 = .ok (.iconst 0, 1) := by decide +kernel
theorem dX8_told_184 : decode cX8_told 184 = .ok (.invokevirtual 92, 3) := by decide +kernel
theorem dX8_told_187 : decode cX8_told 187 = .ok (.aload_n 0, 1) := by decide +kernel
theorem dX8_told_188 : decode cX8_told 188 = .ok (.getfield 47, 3) := by decide +kernel
theorem dX8_told_191 : decode cX8_told 191 = .ok (.aload_n 0, 1) := by decide +kernel
theorem dX8_told_192 : decode cX8_told 192 = .ok (.getfield 10, 3) := by decide +kernel
theorem dX8_told_195 : decode cX8_told 195 = .ok (.invokevirtual 96, 3) := by decide +kernel
theorem dX8_told_198 : decode cX8_told 198 = .ok (.iconst (-1), 1) := by decide +kernel
theorem dX8_told_199 : decode cX8_told 199 = .ok (.if_icmp .ne 17, 3) := by decide +kernel
theorem dX8_told_202 : decode cX8_told 202 = .ok (.aload_n 0, 1) := by decide +kernel
theorem dX8_told_203 : decode cX8_told 203 = .ok (.getfield 47, 3) := by decide +kernel
theorem dX8_told_206 : decode cX8_told 206 = .ok (.aload_n 0, 1) := by decide +kernel
theorem dX8_told_207 : decode cX8_told 207 = .ok (.getfield 10, 3) := by decide +kernel
theorem dX8_told_210 : decode cX8_told 210 = .ok (.invokevirtual 100, 3) := by decide +kernel
theorem dX8_told_213 : decode cX8_told 213 = .ok (.goto 4, 3) := by decide +kernel
theorem dX8_told_216 : decode cX8_told 216 = .ok (.iconst (-1), 1) := by decide +kernel
theorem dX8_told_217 : decode cX8_told 217 = .ok (.ireturn, 1) := by decide +kernel
theorem dX8_told_218 : decode cX8_told 218 = .ok (.aload_n 0, 1) := by decide +kernel
theorem dX8_told_219 : decode cX8_told 219 = .ok (.getfield 26, 3) := by decide +kernel
theorem dX8_told_222 : decode cX8_told 222 = .ok (.getfield 103, 3) := by decide +kernel
theorem dX8_told_225 : decode cX8_told 225 = .ok (.ireturn, 1) := by decide +kernel
theorem dX8_told_226 : decode cX8_told 226 = .ok (.aload_n 0, 1) := by decide +kernel
theorem dX8_told_227 : decode cX8_told 227 = .ok (.getfield 26, 3) := by decide +kernel
theorem dX8_told_230 : decode cX8_told 230 = .ok (.aload_n 0, 1) := by decide +kernel
theorem dX8_told_231 : decode cX8_told 231 = .ok (.getfield 10, 3) := by decide +kernel
theorem dX8_told_234 : decode cX8_told 234 = .ok (.invokevirtual 106, 3) := by decide +kernel
theorem dX8_told_237 : decode cX8_told 237 = .ok (.ireturn, 1) := by decide +kernel
theorem dX8_told_238 : decode cX8_told 238 = .ok (.aload_n 0, 1) := by decide +kernel
theorem dX8_told_239 : decode cX8_told 239 = .ok (.getfield 19, 3) := by decide +kernel
theorem dX8_told_242 : decode cX8_told 242 = .ok (.getfield 109, 3) := by decide +kernel
theorem dX8_told_245 : decode cX8_told 245 = .ok (.ireturn, 1) := by decide +kernel
theorem dX8_told_246 : decode cX8_told 246 = .ok (.aload_n 0, 1) := by decide +kernel
theorem dX8_told_247 : decode cX8_told 247 = .ok (.getfield 61, 3) := by decide +kernel
theorem dX8_told_250 : decode cX8_told 250 = .ok (.getfield 110, 3) := by decide +kernel
theorem dX8_told_253 : decode cX8_told 253 = .ok (.ireturn, 1) := by decide +kernel
theorem dX8_told_254 : decode cX8_told 254 = .ok (.ldc 113, 2) := by decide +kernel
theorem dX8_told_256 : decode cX8_told 256 = .ok (.ireturn, 1) := by decide +kernel
set_option maxRecDepth 20000 in
theorem ggX8_item_X6_hasItem : GoodIn wsX8_item wsX6_hasItem := goodIn_r _ [11, 12, 55, 56, 57, 58, 59, 60, 61, 62] (by decide +kernel) (by decide +kernel)
set_option maxRecDepth 20000 in
theorem gX8_item_X6_hasItem : GoodIn wsX8_item (wsV RX8 114 RX6 yX6_hasItem wsX6_hasItem) := goodIn_app (goodIn_of _ (by decide +kernel)) ggX8_item_X6_hasItem
set_option maxRecDepth 20000 in
theorem ggX8_item_X5_placeOf : GoodIn wsX8_item wsX5_placeOf := goodIn_r _ [17, 18, 19, 63, 64] (by decide +kernel) (by decide +kernel)
set_option maxRecDepth 20000 in
theorem gX8_item_X5_placeOf : GoodIn wsX8_item (wsV RX8 126 RX5 yX5_placeOf wsX5_placeOf) := goodIn_app (goodIn_of _ (by decide +kernel)) ggX8_item_X5_placeOf
set_option maxRecDepth 20000 in
theorem ggX8_item_X5_setAt : GoodIn wsX8_item wsX5_setAt := goodIn_r _ [23, 19, 24, 25, 26, 16, 27, 18, 63, 64] (by decide +kernel) (by decide +kernel)
set_option maxRecDepth 20000 in
theorem gX8_item_X5_setAt : GoodIn wsX8_item (wsV RX8 130 RX5 yX5_setAt wsX5_setAt) := goodIn_app (goodIn_of _ (by decide +kernel)) ggX8_item_X5_setAt
set_option maxRecDepth 20000 in
theorem ggX8_item_J6_bitCount_0f7a4 : GoodIn wsX8_item wsJ6_bitCount_0f7a4 := goodIn_r _ [31, 32, 33, 34] (by decide +kernel) (by decide +kernel)
set_option maxRecDepth 20000 in
theorem gX8_item_J6_bitCount_0f7a4 : GoodIn wsX8_item (va_wsS RX8 133 yJ6_bitCount_0f7a4 wsJ6_bitCount_0f7a4) := goodIn_app (goodIn_of _ (by decide +kernel)) ggX8_item_J6_bitCount_0f7a4
set_option maxRecDepth 20000 in
theorem ggX8_item_X6_hasLetter : GoodIn wsX8_item wsX6_hasLetter := goodIn_r _ [38, 39, 55, 56, 57, 58, 59, 60, 61, 62] (by decide +kernel) (by decide +kernel)
set_option maxRecDepth 20000 in
theorem gX8_item_X6_hasLetter : GoodIn wsX8_item (wsV RX8 138 RX6 yX6_hasLetter wsX6_hasLetter) := goodIn_app (goodIn_of _ (by decide +kernel)) ggX8_item_X6_hasLetter
set_option maxRecDepth 20000 in
theorem ggX8_item_X6_leadsTo : GoodIn wsX8_item wsX6_leadsTo := goodIn_r _ [43, 44, 45, 8, 9, 10, 11, 12, 46, 36, 37, 38, 39, 55, 56, 57, 58, 59, 60, 61, 62] (by decide +kernel) (by decide +kernel)
set_option maxRecDepth 20000 in
theorem gX8_item_X6_leadsTo : GoodIn wsX8_item (wsV RX8 141 RX6 yX6_leadsTo wsX6_leadsTo) := goodIn_app (goodIn_of _ (by decide +kernel)) ggX8_item_X6_leadsTo
theorem dX8_item_0 : decode cX8_item 0 = .ok (.aload_n 0, 1) := by decide +kernel
theorem dX8_item_1 : decode cX8_item 1 = .ok (.getfield 10, 3) := by decide +kernel
theorem dX8_item_4 : decode cX8_item 4 = .ok (.iload_n 1, 1) := by decide +kernel
theorem dX8_item_5 : decode cX8_item 5 = .ok (.invokevirtual 114, 3) := by decide +kernel
theorem dX8_item_8 : decode cX8_item 8 = .ok (.ifCond .ne 6, 3) := by decide +kernel
theorem dX8_item_11 : decode cX8_item 11 = .ok (.ldc 118, 2) := by decide +kernel
theorem dX8_item_13 : decode cX8_item 13 = .ok (.ireturn, 1) := by decide +kernel
theorem dX8_item_14 : decode cX8_item 14 = .ok (.iload_n 2, 1) := by decide +kernel
theorem dX8_item_15 : decode cX8_item 15 = .ok (.tableswitch 127 0 6 #[41, 51, 61, 73, 98, 98, 98], 41) := by decide +kernel
theorem dX8_item_56 : decode cX8_item 56 = .ok (.aload_n 0, 1) := by decide +kernel
theorem dX8_item_57 : decode cX8_item 57 = .ok (.getfield 10, 3) := by decide +kernel
theorem dX8_item_60 : decode cX8_item 60 = .ok (.getfield 119, 3) := by decide +kernel
theorem dX8_item_63 : decode cX8_item 63 = .ok (.iload_n 1, 1) := by decide +kernel
theorem dX8_item_64 : decode cX8_item 64 = .ok (.iaload, 1) := by decide +kernel
theorem dX8_item_65 : decode cX8_item 65 = .ok (.ireturn, 1) := by decide +kernel
theorem dX8_item_66 : decode cX8_item 66 = .ok (.aload_n 0, 1) := by decide +kernel
theorem dX8_item_67 : decode cX8_item 67 = .ok (.getfield 10, 3) := by decide +kernel
theorem dX8_item_70 : decode cX8_item 70 = .ok (.getfield 123, 3) := by decide +kernel
theorem dX8_item_73 : decode cX8_item 73 = .ok (.iload_n 1, 1) := by decide +kernel
theorem dX8_item_74 : decode cX8_item 74 = .ok (.iaload, 1) := by decide +kernel
theorem dX8_item_75 : decode cX8_item 75 = .ok (.ireturn, 1) := by decide +kernel
theorem dX8_item_76 : decode cX8_item 76 = .ok (.aload_n 0, 1) := by decide +kernel
theorem dX8_item_77 : decode cX8_item 77 = .ok (.getfield 10, 3) := by decide +kernel
theorem dX8_item_80 : decode cX8_item 80 = .ok (.getfield 69, 3) := by decide +kernel
theorem dX8_item_83 : decode cX8_item 83 = .ok (.iload_n 1, 1) := by decide +kernel
theorem dX8_item_84 : decode cX8_item 84 = .ok (.invokevirtual 126, 3) := by decide +kernel
theorem dX8_item_87 : decode cX8_item 87 = .ok (.ireturn, 1) := by decide +kernel
theorem dX8_item_88 : decode cX8_item 88 = .ok (.aload_n 0, 1) := by decide +kernel
theorem dX8_item_89 : decode cX8_item 89 = .ok (.getfield 10, 3) := by decide +kernel
theorem dX8_item_92 : decode cX8_item 92 = .ok (.getfield 69, 3) := by decide +kernel
theorem dX8_item_95 : decode cX8_item 95 = .ok (.aload_n 0, 1) := by decide +kernel
theorem dX8_item_96 : decode cX8_item 96 = .ok (.getfield 10, 3) := by decide +kernel
theorem dX8_item_99 : decode cX8_item 99 = .ok (.getfield 69, 3) := by decide +kernel
theorem dX8_item_102 : decode cX8_item 102 = .ok (.iload_n 1, 1) := by decide +kernel
theorem dX8_item_103 : decode cX8_item 103 = .ok (.invokevirtual 126, 3) := by decide +kernel
theorem dX8_item_106 : decode cX8_item 106 = .ok (.invokevirtual 130, 3) := by decide +kernel
theorem dX8_item_109 : decode cX8_item 109 = .ok (.invokestatic 133, 3) := by decide +kernel
theorem dX8_item_112 : decode cX8_item 112 = .ok (.ireturn, 1) := by decide +kernel
theorem dX8_item_113 : decode cX8_item 113 = .ok (.aload_n 0, 1) := by decide +kernel
theorem dX8_item_114 : decode cX8_item 114 = .ok (.getfield 10, 3) := by decide +kernel
theorem dX8_item_117 : decode cX8_item 117 = .ok (.iload_n 2, 1) := by decide +kernel
theorem dX8_item_118 : decode cX8_item 118 = .ok (.iconst 4, 1) := by decide +kernel
theorem dX8_item_119 : decode cX8_item 119 = .ok (.isub, 1) := by decide +kernel
theorem dX8_item_120 : decode cX8_item 120 = .ok (.invokevirtual 138, 3) := by decide +kernel
theorem dX8_item_123 : decode cX8_item 123 = .ok (.ifCond .eq 17, 3) := by decide +kernel
theorem dX8_item_126 : decode cX8_item 126 = .ok (.aload_n 0, 1) := by decide +kernel
theorem dX8_item_127 : decode cX8_item 127 = .ok (.getfield 10, 3) := by decide +kernel
theorem dX8_item_130 : decode cX8_item 130 = .ok (.iload_n 1, 1) := by decide +kernel
theorem dX8_item_131 : decode cX8_item 131 = .ok (.iload_n 2, 1) := by decide +kernel
theorem dX8_item_132 : decode cX8_item 132 = .ok (.iconst 4, 1) := by decide +kernel
theorem dX8_item_133 : decode cX8_item 133 = .ok (.isub, 1) := by decide +kernel
theorem dX8_item_134 : decode cX8_item 134 = .ok (.invokevirtual 141, 3) := by decide +kernel
theorem dX8_item_137 : decode cX8_item 137 = .ok (.goto 4, 3) := by decide +kernel
theorem dX8_item_140 : decode cX8_item 140 = .ok (.iconst (-1), 1) := by decide +kernel
theorem dX8_item_141 : decode cX8_item 141 = .ok (.ireturn, 1) := by decide +kernel
theorem dX8_item_142 : decode cX8_item 142 = .ok (.ldc 113, 2) := by decide +kernel
theorem dX8_item_144 : decode cX8_item 144 = .ok (.ireturn, 1) := by decide +kernel
set_option maxRecDepth 20000 in
theorem ggX8_classAt_X5_hasPlace : GoodIn wsX8_classAt wsX5_hasPlace := goodIn_r _ [8, 9, 32, 33] (by decide +kernel) (by decide +kernel)
set_option maxRecDepth 20000 in
theorem gX8_classAt_X5_hasPlace : GoodIn wsX8_classAt (wsV RX8 145 RX5 yX5_hasPlace wsX5_hasPlace) := goodIn_app (goodIn_of _ (by decide +kernel)) ggX8_classAt_X5_hasPlace
set_option maxRecDepth 20000 in
theorem ggX8_classAt_X5_setAt : GoodIn wsX8_classAt wsX5_setAt := goodIn_r _ [13, 14, 15, 5, 6, 7, 8, 9, 32, 33] (by decide +kernel) (by decide +kernel)
set_option maxRecDepth 20000 in
theorem gX8_classAt_X5_setAt : GoodIn wsX8_classAt (wsV RX8 130 RX5 yX5_setAt wsX5_setAt) := goodIn_app (goodIn_of _ (by decide +kernel)) ggX8_classAt_X5_setAt
theorem dX8_classAt_0 : decode cX8_classAt 0 = .ok (.aload_n 0, 1) := by decide +kernel
theorem dX8_classAt_1 : decode cX8_classAt 1 = .ok (.getfield 10, 3) := by decide +kernel
theorem dX8_classAt_4 : decode cX8_classAt 4 = .ok (.getfield 69, 3) := by decide +kernel
theorem dX8_classAt_7 : decode cX8_classAt 7 = .ok (.iload_n 1, 1) := by decide +kernel
theorem dX8_classAt_8 : decode cX8_classAt 8 = .ok (.invokevirtual 145, 3) := by decide +kernel
theorem dX8_classAt_11 : decode cX8_classAt 11 = .ok (.ifCond .eq 17, 3) := by decide +kernel
theorem dX8_classAt_14 : decode cX8_classAt 14 = .ok (.aload_n 0, 1) := by decide +kernel
theorem dX8_classAt_15 : decode cX8_classAt 15 = .ok (.getfield 10, 3) := by decide +kernel
theorem dX8_classAt_18 : decode cX8_classAt 18 = .ok (.getfield 69, 3) := by decide +kernel
theorem dX8_classAt_21 : decode cX8_classAt 21 = .ok (.iload_n 1, 1) := by decide +kernel
theorem dX8_classAt_22 : decode cX8_classAt 22 = .ok (.invokevirtual 130, 3) := by decide +kernel
theorem dX8_classAt_25 : decode cX8_classAt 25 = .ok (.goto 5, 3) := by decide +kernel
theorem dX8_classAt_28 : decode cX8_classAt 28 = .ok (.ldc 118, 2) := by decide +kernel
theorem dX8_classAt_30 : decode cX8_classAt 30 = .ok (.ireturn, 1) := by decide +kernel
set_option maxRecDepth 20000 in
theorem ggX8_setBy_X8_refusalOfSet : GoodIn wsX8_setBy wsX8_refusalOfSet := goodIn_r _ [7, 1, 8, 2, 9, 10, 11, 12, 13, 14, 15, 16, 17, 18, 19, 20, 21, 22, 23, 24, 25, 26, 66, 67, 68, 69, 70, 71, 72, 73, 74, 75, 76, 77, 78, 79, 80, 81, 82, 83] (by decide +kernel) (by decide +kernel)
set_option maxRecDepth 20000 in
theorem gX8_setBy_X8_refusalOfSet : GoodIn wsX8_setBy (wsV RX8 148 RX8 yX8_refusalOfSet wsX8_refusalOfSet) := goodIn_app (goodIn_of _ (by decide +kernel)) ggX8_setBy_X8_refusalOfSet
set_option maxRecDepth 20000 in
theorem ggX8_setBy_X6_setOfKind : GoodIn wsX8_setBy wsX6_setOfKind := goodIn_r _ [30, 31, 32, 33, 11, 12, 13, 14, 15, 34, 35, 36, 37, 38, 39, 40, 41, 24, 42, 43, 44, 22, 23, 25, 26, 45, 46, 47, 48, 49, 50, 51, 52, 53, 54, 17, 18, 19, 20, 55, 56, 57, 58, 59, 60, 61, 62, 63, 64, 65, 74, 75, 76, 77, 78, 79, 80, 81, 82, 83] (by decide +kernel) (by decide +kernel)
set_option maxRecDepth 20000 in
theorem gX8_setBy_X6_setOfKind : GoodIn wsX8_setBy (wsV RX8 152 RX6 yX6_setOfKind wsX6_setOfKind) := goodIn_app (goodIn_of _ (by decide +kernel)) ggX8_setBy_X6_setOfKind
theorem dX8_setBy_0 : decode cX8_setBy 0 = .ok (.aload_n 0, 1) := by decide +kernel
theorem dX8_setBy_1 : decode cX8_setBy 1 = .ok (.iload_n 1, 1) := by decide +kernel
theorem dX8_setBy_2 : decode cX8_setBy 2 = .ok (.iload_n 2, 1) := by decide +kernel
theorem dX8_setBy_3 : decode cX8_setBy 3 = .ok (.iload_n 3, 1) := by decide +kernel
theorem dX8_setBy_4 : decode cX8_setBy 4 = .ok (.invokevirtual 148, 3) := by decide +kernel
theorem dX8_setBy_7 : decode cX8_setBy 7 = .ok (.istore 4, 2) := by decide +kernel
theorem dX8_setBy_9 : decode cX8_setBy 9 = .ok (.iload 4, 2) := by decide +kernel
theorem dX8_setBy_11 : decode cX8_setBy 11 = .ok (.iconst (-1), 1) := by decide +kernel
theorem dX8_setBy_12 : decode cX8_setBy 12 = .ok (.if_icmp .eq 8, 3) := by decide +kernel
theorem dX8_setBy_15 : decode cX8_setBy 15 = .ok (.iload 4, 2) := by decide +kernel
theorem dX8_setBy_17 : decode cX8_setBy 17 = .ok (.goto 20, 3) := by decide +kernel
theorem dX8_setBy_20 : decode cX8_setBy 20 = .ok (.aload_n 0, 1) := by decide +kernel
theorem dX8_setBy_21 : decode cX8_setBy 21 = .ok (.getfield 10, 3) := by decide +kernel
theorem dX8_setBy_24 : decode cX8_setBy 24 = .ok (.aload_n 0, 1) := by decide +kernel
theorem dX8_setBy_25 : decode cX8_setBy 25 = .ok (.getfield 10, 3) := by decide +kernel
theorem dX8_setBy_28 : decode cX8_setBy 28 = .ok (.getfield 69, 3) := by decide +kernel
theorem dX8_setBy_31 : decode cX8_setBy 31 = .ok (.iload_n 1, 1) := by decide +kernel
theorem dX8_setBy_32 : decode cX8_setBy 32 = .ok (.iload_n 2, 1) := by decide +kernel
theorem dX8_setBy_33 : decode cX8_setBy 33 = .ok (.iload_n 3, 1) := by decide +kernel
theorem dX8_setBy_34 : decode cX8_setBy 34 = .ok (.invokevirtual 152, 3) := by decide +kernel
theorem dX8_setBy_37 : decode cX8_setBy 37 = .ok (.ireturn, 1) := by decide +kernel
set_option maxRecDepth 20000 in
theorem ggX8_alike_X6_hasItem : GoodIn wsX8_alike wsX6_hasItem := goodIn_r _ [9, 10, 145, 146, 147, 148, 149, 150, 151, 152] (by decide +kernel) (by decide +kernel)
set_option maxRecDepth 20000 in
theorem gX8_alike_X6_hasItem : GoodIn wsX8_alike (wsV RX8 114 RX6 yX6_hasItem wsX6_hasItem) := goodIn_app (goodIn_of _ (by decide +kernel)) ggX8_alike_X6_hasItem
set_option maxRecDepth 20000 in
theorem ggX8_alike_X8_isRefinedKind : GoodIn wsX8_alike wsX8_isRefinedKind := goodIn_r _ [14] (by decide +kernel) (by decide +kernel)
set_option maxRecDepth 20000 in
theorem gX8_alike_X8_isRefinedKind : GoodIn wsX8_alike (va_wsS RX8 156 yX8_isRefinedKind wsX8_isRefinedKind) := goodIn_app (goodIn_of _ (by decide +kernel)) ggX8_alike_X8_isRefinedKind
set_option maxRecDepth 20000 in
theorem ggX8_alike_X8_refineAside : GoodIn wsX8_alike wsX8_refineAside := goodIn_r _ [18, 4, 1, 19, 20, 21, 22, 8, 23, 10, 24, 25, 26, 27, 28, 29, 30, 31, 32, 33, 34, 35, 36, 37, 38, 39, 40, 41, 42, 43, 44, 45, 46, 47, 48, 49, 50, 51, 52, 53, 54, 55, 56, 57, 58, 59, 60, 61, 62, 63, 64, 65, 66, 67, 68, 69, 70, 71, 72, 73, 74, 75, 76, 77, 78, 79, 80, 81, 6, 7, 9, 82, 83, 84, 85, 86, 87, 88, 89, 90, 91, 92, 93, 94, 95, 96, 97, 98, 99, 100, 101, 102, 103, 104, 105, 106, 107, 108, 109, 110, 111, 112, 113, 114, 115, 116, 117, 118, 119, 120, 121, 122, 123, 124, 125, 126, 127, 128, 129, 130, 131, 132, 137, 138, 139, 140, 141, 142, 143, 144, 145, 146, 147, 148, 149, 150, 151, 152, 153, 154, 155] (by decide +kernel) (by decide +kernel)
set_option maxRecDepth 20000 in
theorem gX8_alike_X8_refineAside : GoodIn wsX8_alike (wsV RX8 88 RX8 yX8_refineAside wsX8_refineAside) := goodIn_app (goodIn_of _ (by decide +kernel)) ggX8_alike_X8_refineAside
set_option maxRecDepth 20000 in
theorem ggX8_alike_X5_placeOf : GoodIn wsX8_alike wsX5_placeOf := goodIn_r _ [136, 30, 29, 153, 154] (by decide +kernel) (by decide +kernel)
set_option maxRecDepth 20000 in
theorem gX8_alike_X5_placeOf : GoodIn wsX8_alike (wsV RX8 126 RX5 yX5_placeOf wsX5_placeOf) := goodIn_app (goodIn_of _ (by decide +kernel)) ggX8_alike_X5_placeOf
theorem dX8_alike_0 : decode cX8_alike 0 = .ok (.aload_n 0, 1) := by decide +kernel
theorem dX8_alike_1 : decode cX8_alike 1 = .ok (.getfield 10, 3) := by decide +kernel
theorem dX8_alike_4 : decode cX8_alike 4 = .ok (.iload_n 1, 1) := by decide +kernel
theorem dX8_alike_5 : decode cX8_alike 5 = .ok (.invokevirtual 114, 3) := by decide +kernel
theorem dX8_alike_8 : decode cX8_alike 8 = .ok (.ifCond .eq 14, 3) := by decide +kernel
theorem dX8_alike_11 : decode cX8_alike 11 = .ok (.aload_n 0, 1) := by decide +kernel
theorem dX8_alike_12 : decode cX8_alike 12 = .ok (.getfield 10, 3) := by decide +kernel
theorem dX8_alike_15 : decode cX8_alike 15 = .ok (.iload_n 2, 1) := by decide +kernel
theorem dX8_alike_16 : decode cX8_alike 16 = .ok (.invokevirtual 114, 3) := by decide +kernel
theorem dX8_alike_19 : decode cX8_alike 19 = .ok (.ifCond .ne 6, 3) := by decide +kernel
theorem dX8_alike_22 : decode cX8_alike 22 = .ok (.ldc 118, 2) := by decide +kernel
theorem dX8_alike_24 : decode cX8_alike 24 = .ok (.ireturn, 1) := by decide +kernel
theorem dX8_alike_25 : decode cX8_alike 25 = .ok (.iload_n 3, 1) := by decide +kernel
theorem dX8_alike_26 : decode cX8_alike 26 = .ok (.invokestatic 156, 3) := by decide +kernel
theorem dX8_alike_29 : decode cX8_alike 29 = .ok (.ifCond .ne 6, 3) := by decide +kernel
theorem dX8_alike_32 : decode cX8_alike 32 = .ok (.ldc 113, 2) := by decide +kernel
theorem dX8_alike_34 : decode cX8_alike 34 = .ok (.ireturn, 1) := by decide +kernel
theorem dX8_alike_35 : decode cX8_alike 35 = .ok (.aload_n 0, 1) := by decide +kernel
theorem dX8_alike_36 : decode cX8_alike 36 = .ok (.iload_n 3, 1) := by decide +kernel
theorem dX8_alike_37 : decode cX8_alike 37 = .ok (.invokevirtual 88, 3) := by decide +kernel
theorem dX8_alike_40 : decode cX8_alike 40 = .ok (.aload_n 0, 1) := by decide +kernel
theorem dX8_alike_41 : decode cX8_alike 41 = .ok (.getfield 54, 3) := by decide +kernel
theorem dX8_alike_44 : decode cX8_alike 44 = .ok (.iload_n 1, 1) := by decide +kernel
theorem dX8_alike_45 : decode cX8_alike 45 = .ok (.invokevirtual 126, 3) := by decide +kernel
theorem dX8_alike_48 : decode cX8_alike 48 = .ok (.aload_n 0, 1) := by decide +kernel
theorem dX8_alike_49 : decode cX8_alike 49 = .ok (.getfield 54, 3) := by decide +kernel
theorem dX8_alike_52 : decode cX8_alike 52 = .ok (.iload_n 2, 1) := by decide +kernel
theorem dX8_alike_53 : decode cX8_alike 53 = .ok (.invokevirtual 126, 3) := by decide +kernel
theorem dX8_alike_56 : decode cX8_alike 56 = .ok (.if_icmp .ne 7, 3) := by decide +kernel
theorem dX8_alike_59 : decode cX8_alike 59 = .ok (.iconst 1, 1) := by decide +kernel
theorem dX8_alike_60 : decode cX8_alike 60 = .ok (.goto 4, 3) := by decide +kernel
theorem dX8_alike_63 : decode cX8_alike 63 = .ok (.iconst 0, 1) := by decide +kernel
theorem dX8_alike_64 : decode cX8_alike 64 = .ok (.ireturn, 1) := by decide +kernel
set_option maxRecDepth 20000 in
theorem ggX8_apart_X6_hasItem : GoodIn wsX8_apart wsX6_hasItem := goodIn_r _ [9, 10, 86, 87, 88, 89, 90, 91, 92, 93] (by decide +kernel) (by decide +kernel)
set_option maxRecDepth 20000 in
theorem gX8_apart_X6_hasItem : GoodIn wsX8_apart (wsV RX8 114 RX6 yX6_hasItem wsX6_hasItem) := goodIn_app (goodIn_of _ (by decide +kernel)) ggX8_apart_X6_hasItem
set_option maxRecDepth 20000 in
theorem ggX8_apart_X4_shortestWordApart : GoodIn wsX8_apart wsX4_shortestWordApart := goodIn_r _ [15, 16, 17, 18, 19, 20, 21, 8, 22, 10, 23, 24, 25, 26, 27, 28, 29, 30, 31, 32, 33, 34, 35, 36, 37, 38, 39, 40, 41, 42, 43, 44, 45, 46, 47, 48, 49, 50, 51, 52, 14, 53, 54, 55, 56, 57, 58, 59, 60, 61, 62, 63, 64, 65, 66, 67, 68, 69, 70, 71, 72, 6, 7, 9, 73, 74, 75, 76, 77, 86, 87, 88, 89, 90, 91, 92, 93, 94, 95, 96] (by decide +kernel) (by decide +kernel)
set_option maxRecDepth 20000 in
theorem gX8_apart_X4_shortestWordApart : GoodIn wsX8_apart (wsV RX8 159 RX4 yX4_shortestWordApart wsX4_shortestWordApart) := goodIn_app (goodIn_of _ (by decide +kernel)) ggX8_apart_X4_shortestWordApart
theorem dX8_apart_0 : decode cX8_apart 0 = .ok (.aload_n 0, 1) := by decide +kernel
theorem dX8_apart_1 : decode cX8_apart 1 = .ok (.getfield 10, 3) := by decide +kernel
theorem dX8_apart_4 : decode cX8_apart 4 = .ok (.iload_n 1, 1) := by decide +kernel
theorem dX8_apart_5 : decode cX8_apart 5 = .ok (.invokevirtual 114, 3) := by decide +kernel
theorem dX8_apart_8 : decode cX8_apart 8 = .ok (.ifCond .eq 14, 3) := by decide +kernel
theorem dX8_apart_11 : decode cX8_apart 11 = .ok (.aload_n 0, 1) := by decide +kernel
theorem dX8_apart_12 : decode cX8_apart 12 = .ok (.getfield 10, 3) := by decide +kernel
theorem dX8_apart_15 : decode cX8_apart 15 = .ok (.iload_n 2, 1) := by decide +kernel
theorem dX8_apart_16 : decode cX8_apart 16 = .ok (.invokevirtual 114, 3) := by decide +kernel
theorem dX8_apart_19 : decode cX8_apart 19 = .ok (.ifCond .ne 6, 3) := by decide +kernel
theorem dX8_apart_22 : decode cX8_apart 22 = .ok (.ldc 118, 2) := by decide +kernel
theorem dX8_apart_24 : decode cX8_apart 24 = .ok (.ireturn, 1) := by decide +kernel
theorem dX8_apart_25 : decode cX8_apart 25 = .ok (.aload_n 0, 1) := by decide +kernel
theorem dX8_apart_26 : decode cX8_apart 26 = .ok (.getfield 40, 3) := by decide +kernel
theorem dX8_apart_29 : decode cX8_apart 29 = .ok (.aload_n 0, 1) := by decide +kernel
theorem dX8_apart_30 : decode cX8_apart 30 = .ok (.getfield 10, 3) := by decide +kernel
theorem dX8_apart_33 : decode cX8_apart 33 = .ok (.aload_n 0, 1) := by decide +kernel
theorem dX8_apart_34 : decode cX8_apart 34 = .ok (.getfield 54, 3) := by decide +kernel
theorem dX8_apart_37 : decode cX8_apart 37 = .ok (.iload_n 1, 1) := by decide +kernel
theorem dX8_apart_38 : decode cX8_apart 38 = .ok (.iload_n 2, 1) := by decide +kernel
theorem dX8_apart_39 : decode cX8_apart 39 = .ok (.invokevirtual 159, 3) := by decide +kernel
theorem dX8_apart_42 : decode cX8_apart 42 = .ok (.ireturn, 1) := by decide +kernel
set_option maxRecDepth 20000 in
theorem ggX8_search_X6_hasItem : GoodIn wsX8_search wsX6_hasItem := goodIn_r _ [9, 10, 68, 69, 70, 71, 72, 73, 74, 75] (by decide +kernel) (by decide +kernel)
set_option maxRecDepth 20000 in
theorem gX8_search_X6_hasItem : GoodIn wsX8_search (wsV RX8 114 RX6 yX6_hasItem wsX6_hasItem) := goodIn_app (goodIn_of _ (by decide +kernel)) ggX8_search_X6_hasItem
set_option maxRecDepth 20000 in
theorem ggX8_search_X7_walkFrom : GoodIn wsX8_search wsX7_walkFrom := goodIn_r _ [15, 16, 17, 18, 19, 20, 21, 22, 23, 8, 24, 10, 25, 26, 27, 28, 29, 30, 31, 32, 33, 34, 35, 36, 37, 38, 39, 40, 41, 42, 43, 44, 45, 46, 47, 48, 49, 50, 51, 52, 53, 54, 55, 56, 6, 7, 9, 65, 66, 67, 68, 69, 70, 71, 72, 73, 74, 75, 76, 77] (by decide +kernel) (by decide +kernel)
set_option maxRecDepth 20000 in
theorem gX8_search_X7_walkFrom : GoodIn wsX8_search (wsV RX8 92 RX7 yX7_walkFrom wsX7_walkFrom) := goodIn_app (goodIn_of _ (by decide +kernel)) ggX8_search_X7_walkFrom
theorem dX8_search_0 : decode cX8_search 0 = .ok (.aload_n 0, 1) := by decide +kernel
theorem dX8_search_1 : decode cX8_search 1 = .ok (.getfield 10, 3) := by decide +kernel
theorem dX8_search_4 : decode cX8_search 4 = .ok (.iload_n 1, 1) := by decide +kernel
theorem dX8_search_5 : decode cX8_search 5 = .ok (.invokevirtual 114, 3) := by decide +kernel
theorem dX8_search_8 : decode cX8_search 8 = .ok (.ifCond .eq 14, 3) := by decide +kernel
theorem dX8_search_11 : decode cX8_search 11 = .ok (.aload_n 0, 1) := by decide +kernel
theorem dX8_search_12 : decode cX8_search 12 = .ok (.getfield 10, 3) := by decide +kernel
theorem dX8_search_15 : decode cX8_search 15 = .ok (.iload_n 2, 1) := by decide +kernel
theorem dX8_search_16 : decode cX8_search 16 = .ok (.invokevirtual 114, 3) := by decide +kernel
theorem dX8_search_19 : decode cX8_search 19 = .ok (.ifCond .ne 6, 3) := by decide +kernel
theorem dX8_search_22 : decode cX8_search 22 = .ok (.ldc 118, 2) := by decide +kernel
theorem dX8_search_24 : decode cX8_search 24 = .ok (.ireturn, 1) := by decide +kernel
theorem dX8_search_25 : decode cX8_search 25 = .ok (.aload_n 0, 1) := by decide +kernel
theorem dX8_search_26 : decode cX8_search 26 = .ok (.getfield 47, 3) := by decide +kernel
theorem dX8_search_29 : decode cX8_search 29 = .ok (.aload_n 0, 1) := by decide +kernel
theorem dX8_search_30 : decode cX8_search 30 = .ok (.getfield 10, 3) := by decide +kernel
theorem dX8_search_33 : decode cX8_search 33 = .ok (.iload_n 1, 1) := by decide +kernel
theorem dX8_search_34 : decode cX8_search 34 = .ok (.invokevirtual 92, 3) := by decide +kernel
theorem dX8_search_37 : decode cX8_search 37 = .ok (.aload_n 0, 1) := by decide +kernel
theorem dX8_search_38 : decode cX8_search 38 = .ok (.getfield 47, 3) := by decide +kernel
theorem dX8_search_41 : decode cX8_search 41 = .ok (.getfield 163, 3) := by decide +kernel
theorem dX8_search_44 : decode cX8_search 44 = .ok (.iload_n 2, 1) := by decide +kernel
theorem dX8_search_45 : decode cX8_search 45 = .ok (.iaload, 1) := by decide +kernel
theorem dX8_search_46 : decode cX8_search 46 = .ok (.ireturn, 1) := by decide +kernel
set_option maxRecDepth 20000 in
theorem ggX8_items_X2_remember : GoodIn wsX8_items wsX2_remember := goodIn_r _ [9, 10, 11, 12, 13, 14, 15, 16, 17, 18, 19, 20, 21, 22, 23, 24, 25, 26, 27, 28, 29, 30, 31, 32, 33, 34, 35, 36, 37, 38, 39, 40, 41, 90, 91, 92, 82, 83, 84, 85, 86, 87, 88, 89, 93, 94] (by decide +kernel) (by decide +kernel)
set_option maxRecDepth 20000 in
theorem gX8_items_X2_remember : GoodIn wsX8_items (wsV RX8 166 RX2 yX2_remember wsX2_remember) := goodIn_app (goodIn_of _ (by decide +kernel)) ggX8_items_X2_remember
set_option maxRecDepth 20000 in
theorem ggX8_items_X6_startWith : GoodIn wsX8_items wsX6_startWith := goodIn_r _ [45, 22, 26, 31, 23, 24, 33, 25, 46, 47, 48, 49, 50, 51, 52, 20, 53, 54, 55, 56, 57, 32, 58, 59, 60, 61, 62, 63, 64, 65, 66, 67, 68, 69, 70, 71, 72, 37, 73, 39, 41, 82, 83, 84, 85, 86, 87, 88, 89, 93, 94] (by decide +kernel) (by decide +kernel)
set_option maxRecDepth 20000 in
theorem gX8_items_X6_startWith : GoodIn wsX8_items (wsV RX8 170 RX6 yX6_startWith wsX6_startWith) := goodIn_app (goodIn_of _ (by decide +kernel)) ggX8_items_X6_startWith
theorem dX8_items_0 : decode cX8_items 0 = .ok (.iload_n 1, 1) := by decide +kernel
theorem dX8_items_1 : decode cX8_items 1 = .ok (.iconst 1, 1) := by decide +kernel
theorem dX8_items_2 : decode cX8_items 2 = .ok (.if_icmp .lt 9, 3) := by decide +kernel
theorem dX8_items_5 : decode cX8_items 5 = .ok (.iload_n 1, 1) := by decide +kernel
theorem dX8_items_6 : decode cX8_items 6 = .ok (.bipush 12, 2) := by decide +kernel
theorem dX8_items_8 : decode cX8_items 8 = .ok (.if_icmp .le 6, 3) := by decide +kernel
theorem dX8_items_11 : decode cX8_items 11 = .ok (.ldc 113, 2) := by decide +kernel
theorem dX8_items_13 : decode cX8_items 13 = .ok (.ireturn, 1) := by decide +kernel
theorem dX8_items_14 : decode cX8_items 14 = .ok (.aload_n 0, 1) := by decide +kernel
theorem dX8_items_15 : decode cX8_items 15 = .ok (.getfield 10, 3) := by decide +kernel
theorem dX8_items_18 : decode cX8_items 18 = .ok (.getfield 65, 3) := by decide +kernel
theorem dX8_items_21 : decode cX8_items 21 = .ok (.istore_n 2, 1) := by decide +kernel
theorem dX8_items_22 : decode cX8_items 22 = .ok (.aload_n 0, 1) := by decide +kernel
theorem dX8_items_23 : decode cX8_items 23 = .ok (.getfield 19, 3) := by decide +kernel
theorem dX8_items_26 : decode cX8_items 26 = .ok (.aload_n 0, 1) := by decide +kernel
theorem dX8_items_27 : decode cX8_items 27 = .ok (.getfield 10, 3) := by decide +kernel
theorem dX8_items_30 : decode cX8_items 30 = .ok (.invokevirtual 166, 3) := by decide +kernel
theorem dX8_items_33 : decode cX8_items 33 = .ok (.aload_n 0, 1) := by decide +kernel
theorem dX8_items_34 : decode cX8_items 34 = .ok (.getfield 10, 3) := by decide +kernel
theorem dX8_items_37 : decode cX8_items 37 = .ok (.iload_n 1, 1) := by decide +kernel
theorem dX8_items_38 : decode cX8_items 38 = .ok (.invokevirtual 170, 3) := by decide +kernel
theorem dX8_items_41 : decode cX8_items 41 = .ok (.iload_n 2, 1) := by decide +kernel
theorem dX8_items_42 : decode cX8_items 42 = .ok (.ireturn, 1) := by decide +kernel
set_option maxRecDepth 20000 in
theorem ggX8_edge_X6_hasItem : GoodIn wsX8_edge wsX6_hasItem := goodIn_r _ [9, 10, 74, 75, 76, 77, 78, 79, 80, 81] (by decide +kernel) (by decide +kernel)
set_option maxRecDepth 20000 in
theorem gX8_edge_X6_hasItem : GoodIn wsX8_edge (wsV RX8 114 RX6 yX6_hasItem wsX6_hasItem) := goodIn_app (goodIn_of _ (by decide +kernel)) ggX8_edge_X6_hasItem
set_option maxRecDepth 20000 in
theorem ggX8_edge_X2_remember : GoodIn wsX8_edge wsX2_remember := goodIn_r _ [15, 16, 17, 18, 19, 20, 21, 22, 23, 24, 25, 8, 26, 10, 27, 28, 29, 30, 31, 32, 33, 34, 35, 36, 37, 38, 39, 40, 41, 42, 43, 44, 45, 82, 83, 84, 74, 75, 76, 77, 78, 79, 80, 81, 85, 86] (by decide +kernel) (by decide +kernel)
set_option maxRecDepth 20000 in
theorem gX8_edge_X2_remember : GoodIn wsX8_edge (wsV RX8 166 RX2 yX2_remember wsX2_remember) := goodIn_app (goodIn_of _ (by decide +kernel)) ggX8_edge_X2_remember
set_option maxRecDepth 20000 in
theorem ggX8_edge_X6_isEdge : GoodIn wsX8_edge wsX6_isEdge := goodIn_r _ [49, 35, 50, 6, 7, 8, 9, 10, 74, 75, 76, 77, 78, 79, 80, 81] (by decide +kernel) (by decide +kernel)
set_option maxRecDepth 20000 in
theorem gX8_edge_X6_isEdge : GoodIn wsX8_edge (wsV RX8 173 RX6 yX6_isEdge wsX6_isEdge) := goodIn_app (goodIn_of _ (by decide +kernel)) ggX8_edge_X6_isEdge
set_option maxRecDepth 20000 in
theorem ggX8_edge_X6_flipEdge : GoodIn wsX8_edge wsX6_flipEdge := goodIn_r _ [54, 35, 50, 6, 7, 8, 9, 10, 74, 75, 76, 77, 78, 79, 80, 81] (by decide +kernel) (by decide +kernel)
set_option maxRecDepth 20000 in
theorem gX8_edge_X6_flipEdge : GoodIn wsX8_edge (wsV RX8 177 RX6 yX6_flipEdge wsX6_flipEdge) := goodIn_app (goodIn_of _ (by decide +kernel)) ggX8_edge_X6_flipEdge
set_option maxRecDepth 20000 in
theorem ggX8_edge_X6_edgeCount : GoodIn wsX8_edge wsX6_edgeCount := goodIn_r _ [58, 10, 35, 59, 60, 61, 62, 63, 64, 65, 74, 75, 76, 77, 78, 79, 80, 81] (by decide +kernel) (by decide +kernel)
set_option maxRecDepth 20000 in
theorem gX8_edge_X6_edgeCount : GoodIn wsX8_edge (wsV RX8 78 RX6 yX6_edgeCount wsX6_edgeCount) := goodIn_app (goodIn_of _ (by decide +kernel)) ggX8_edge_X6_edgeCount
theorem dX8_edge_0 : decode cX8_edge 0 = .ok (.aload_n 0, 1) := by decide +kernel
theorem dX8_edge_1 : decode cX8_edge 1 = .ok (.getfield 10, 3) := by decide +kernel
theorem dX8_edge_4 : decode cX8_edge 4 = .ok (.iload_n 1, 1) := by decide +kernel
theorem dX8_edge_5 : decode cX8_edge 5 = .ok (.invokevirtual 114, 3) := by decide +kernel
theorem dX8_edge_8 : decode cX8_edge 8 = .ok (.ifCond .eq 19, 3) := by decide +kernel
theorem dX8_edge_11 : decode cX8_edge 11 = .ok (.aload_n 0, 1) := by decide +kernel
theorem dX8_edge_12 : decode cX8_edge 12 = .ok (.getfield 10, 3) := by decide +kernel
theorem dX8_edge_15 : decode cX8_edge 15 = .ok (.iload_n 2, 1) := by decide +kernel
theorem dX8_edge_16 : decode cX8_edge 16 = .ok (.invokevirtual 114, 3) := by decide +kernel
theorem dX8_edge_19 : decode cX8_edge 19 = .ok (.ifCond .eq 8, 3) := by decide +kernel
theorem dX8_edge_22 : decode cX8_edge 22 = .ok (.iload_n 1, 1) := by decide +kernel
theorem dX8_edge_23 : decode cX8_edge 23 = .ok (.iload_n 2, 1) := by decide +kernel
theorem dX8_edge_24 : decode cX8_edge 24 = .ok (.if_icmp .ne 6, 3) := by decide +kernel
theorem dX8_edge_27 : decode cX8_edge 27 = .ok (.ldc 118, 2) := by decide +kernel
theorem dX8_edge_29 : decode cX8_edge 29 = .ok (.ireturn, 1) := by decide +kernel
theorem dX8_edge_30 : decode cX8_edge 30 = .ok (.iload_n 3, 1) := by decide +kernel
theorem dX8_edge_31 : decode cX8_edge 31 = .ok (.ifCond .eq 11, 3) := by decide +kernel
theorem dX8_edge_34 : decode cX8_edge 34 = .ok (.iload_n 3, 1) := by decide +kernel
theorem dX8_edge_35 : decode cX8_edge 35 = .ok (.iconst 1, 1) := by decide +kernel
theorem dX8_edge_36 : decode cX8_edge 36 = .ok (.if_icmp .eq 6, 3) := by decide +kernel
theorem dX8_edge_39 : decode cX8_edge 39 = .ok (.ldc 113, 2) := by decide +kernel
theorem dX8_edge_41 : decode cX8_edge 41 = .ok (.ireturn, 1) := by decide +kernel
theorem dX8_edge_42 : decode cX8_edge 42 = .ok (.aload_n 0, 1) := by decide +kernel
theorem dX8_edge_43 : decode cX8_edge 43 = .ok (.getfield 19, 3) := by decide +kernel
theorem dX8_edge_46 : decode cX8_edge 46 = .ok (.aload_n 0, 1) := by decide +kernel
theorem dX8_edge_47 : decode cX8_edge 47 = .ok (.getfield 10, 3) := by decide +kernel
theorem dX8_edge_50 : decode cX8_edge 50 = .ok (.invokevirtual 166, 3) := by decide +kernel
theorem dX8_edge_53 : decode cX8_edge 53 = .ok (.aload_n 0, 1) := by decide +kernel
theorem dX8_edge_54 : decode cX8_edge 54 = .ok (.getfield 10, 3) := by decide +kernel
theorem dX8_edge_57 : decode cX8_edge 57 = .ok (.iload_n 1, 1) := by decide +kernel
theorem dX8_edge_58 : decode cX8_edge 58 = .ok (.iload_n 2, 1) := by decide +kernel
theorem dX8_edge_59 : decode cX8_edge 59 = .ok (.invokevirtual 173, 3) := by decide +kernel
theorem dX8_edge_62 : decode cX8_edge 62 = .ok (.iload_n 3, 1) := by decide +kernel
theorem dX8_edge_63 : decode cX8_edge 63 = .ok (.iconst 1, 1) := by decide +kernel
theorem dX8_edge_64 : decode cX8_edge 64 = .ok (.if_icmp .ne 7, 3) := by decide +kernel
theorem dX8_edge_67 : decode cX8_edge 67 = .ok (.iconst 1, 1) := by decide +kernel
theorem dX8_edge_68 : decode cX8_edge 68 = .ok (.goto 4, 3) := by decide +kernel
theorem dX8_edge_71 : decode cX8_edge 71 = .ok (.iconst 0, 1) := by decide +kernel
theorem dX8_edge_72 : decode cX8_edge 72 = .ok (.if_icmp .eq 12, 3) := by decide +kernel
theorem dX8_edge_75 : decode cX8_edge 75 = .ok (.aload_n 0, 1) := by decide +kernel
theorem dX8_edge_76 : decode cX8_edge 76 = .ok (.getfield 10, 3) := by decide +kernel
theorem dX8_edge_79 : decode cX8_edge 79 = .ok (.iload_n 1, 1) := by decide +kernel
theorem dX8_edge_80 : decode cX8_edge 80 = .ok (.iload_n 2, 1) := by decide +kernel
theorem dX8_edge_81 : decode cX8_edge 81 = .ok (.invokevirtual 177, 3) := by decide +kernel
theorem dX8_edge_84 : decode cX8_edge 84 = .ok (.aload_n 0, 1) := by decide +kernel
theorem dX8_edge_85 : decode cX8_edge 85 = .ok (.getfield 10, 3) := by decide +kernel
theorem dX8_edge_88 : decode cX8_edge 88 = .ok (.invokevirtual 78, 3) := by decide +kernel
theorem dX8_edge_91 : decode cX8_edge 91 = .ok (.ireturn, 1) := by decide +kernel
set_option maxRecDepth 20000 in
theorem ggX8_columns_X6_hasItem : GoodIn wsX8_columns wsX6_hasItem := goodIn_r _ [10, 11, 55, 56, 57, 58, 59, 60, 61, 62] (by decide +kernel) (by decide +kernel)
set_option maxRecDepth 20000 in
theorem gX8_columns_X6_hasItem : GoodIn wsX8_columns (wsV RX8 114 RX6 yX6_hasItem wsX6_hasItem) := goodIn_app (goodIn_of _ (by decide +kernel)) ggX8_columns_X6_hasItem
set_option maxRecDepth 20000 in
theorem ggX8_columns_X2_remember : GoodIn wsX8_columns wsX2_remember := goodIn_r _ [16, 17, 18, 19, 20, 21, 22, 23, 24, 25, 26, 9, 27, 11, 28, 29, 30, 31, 32, 33, 34, 35, 36, 37, 38, 39, 40, 41, 42, 43, 44, 45, 46, 63, 64, 65, 55, 56, 57, 58, 59, 60, 61, 62, 66, 67] (by decide +kernel) (by decide +kernel)
set_option maxRecDepth 20000 in
theorem gX8_columns_X2_remember : GoodIn wsX8_columns (wsV RX8 166 RX2 yX2_remember wsX2_remember) := goodIn_app (goodIn_of _ (by decide +kernel)) ggX8_columns_X2_remember
theorem dX8_columns_0 : decode cX8_columns 0 = .ok (.aload_n 0, 1) := by decide +kernel
theorem dX8_columns_1 : decode cX8_columns 1 = .ok (.getfield 10, 3) := by decide +kernel
theorem dX8_columns_4 : decode cX8_columns 4 = .ok (.iload_n 1, 1) := by decide +kernel
theorem dX8_columns_5 : decode cX8_columns 5 = .ok (.invokevirtual 114, 3) := by decide +kernel
theorem dX8_columns_8 : decode cX8_columns 8 = .ok (.ifCond .ne 6, 3) := by decide +kernel
theorem dX8_columns_11 : decode cX8_columns 11 = .ok (.ldc 118, 2) := by decide +kernel
theorem dX8_columns_13 : decode cX8_columns 13 = .ok (.ireturn, 1) := by decide +kernel
theorem dX8_columns_14 : decode cX8_columns 14 = .ok (.iload_n 2, 1) := by decide +kernel
theorem dX8_columns_15 : decode cX8_columns 15 = .ok (.ifCond .lt 10, 3) := by decide +kernel
theorem dX8_columns_18 : decode cX8_columns 18 = .ok (.iload_n 2, 1) := by decide +kernel
theorem dX8_columns_19 : decode cX8_columns 19 = .ok (.sipush 256, 3) := by decide +kernel
theorem dX8_columns_22 : decode cX8_columns 22 = .ok (.if_icmp .lt 6, 3) := by decide +kernel
theorem dX8_columns_25 : decode cX8_columns 25 = .ok (.ldc 113, 2) := by decide +kernel
theorem dX8_columns_27 : decode cX8_columns 27 = .ok (.ireturn, 1) := by decide +kernel
theorem dX8_columns_28 : decode cX8_columns 28 = .ok (.aload_n 0, 1) := by decide +kernel
theorem dX8_columns_29 : decode cX8_columns 29 = .ok (.getfield 10, 3) := by decide +kernel
theorem dX8_columns_32 : decode cX8_columns 32 = .ok (.getfield 119, 3) := by decide +kernel
theorem dX8_columns_35 : decode cX8_columns 35 = .ok (.iload_n 1, 1) := by decide +kernel
theorem dX8_columns_36 : decode cX8_columns 36 = .ok (.iaload, 1) := by decide +kernel
theorem dX8_columns_37 : decode cX8_columns 37 = .ok (.istore_n 3, 1) := by decide +kernel
theorem dX8_columns_38 : decode cX8_columns 38 = .ok (.aload_n 0, 1) := by decide +kernel
theorem dX8_columns_39 : decode cX8_columns 39 = .ok (.getfield 19, 3) := by decide +kernel
theorem dX8_columns_42 : decode cX8_columns 42 = .ok (.aload_n 0, 1) := by decide +kernel
theorem dX8_columns_43 : decode cX8_columns 43 = .ok (.getfield 10, 3) := by decide +kernel
theorem dX8_columns_46 : decode cX8_columns 46 = .ok (.invokevirtual 166, 3) := by decide +kernel
theorem dX8_columns_49 : decode cX8_columns 49 = .ok (.aload_n 0, 1) := by decide +kernel
theorem dX8_columns_50 : decode cX8_columns 50 = .ok (.getfield 10, 3) := by decide +kernel
theorem dX8_columns_53 : decode cX8_columns 53 = .ok (.getfield 119, 3) := by decide +kernel
theorem dX8_columns_56 : decode cX8_columns 56 = .ok (.iload_n 1, 1) := by decide +kernel
theorem dX8_columns_57 : decode cX8_columns 57 = .ok (.iload_n 2, 1) := by decide +kernel
theorem dX8_columns_58 : decode cX8_columns 58 = .ok (.iastore, 1) := by decide +kernel
theorem dX8_columns_59 : decode cX8_columns 59 = .ok (.iload_n 3, 1) := by decide +kernel
theorem dX8_columns_60 : decode cX8_columns 60 = .ok (.ireturn, 1) := by decide +kernel
set_option maxRecDepth 20000 in
theorem ggX8_letters_X2_remember : GoodIn wsX8_letters wsX2_remember := goodIn_r _ [9, 10, 11, 12, 13, 14, 15, 16, 17, 18, 19, 20, 21, 22, 23, 24, 25, 26, 27, 28, 29, 30, 31, 32, 33, 34, 35, 36, 37, 38, 39, 40, 41, 74, 75, 76, 66, 67, 68, 69, 70, 71, 72, 73, 77, 78] (by decide +kernel) (by decide +kernel)
set_option maxRecDepth 20000 in
theorem gX8_letters_X2_remember : GoodIn wsX8_letters (wsV RX8 166 RX2 yX2_remember wsX2_remember) := goodIn_app (goodIn_of _ (by decide +kernel)) ggX8_letters_X2_remember
set_option maxRecDepth 20000 in
theorem ggX8_letters_X6_takeLetters : GoodIn wsX8_letters wsX6_takeLetters := goodIn_r _ [45, 23, 22, 46, 47, 48, 20, 49, 32, 50, 51, 52, 53, 54, 55, 56, 57, 66, 67, 68, 69, 70, 71, 72, 73] (by decide +kernel) (by decide +kernel)
set_option maxRecDepth 20000 in
theorem gX8_letters_X6_takeLetters : GoodIn wsX8_letters (wsV RX8 181 RX6 yX6_takeLetters wsX6_takeLetters) := goodIn_app (goodIn_of _ (by decide +kernel)) ggX8_letters_X6_takeLetters
theorem dX8_letters_0 : decode cX8_letters 0 = .ok (.iload_n 1, 1) := by decide +kernel
theorem dX8_letters_1 : decode cX8_letters 1 = .ok (.iconst 1, 1) := by decide +kernel
theorem dX8_letters_2 : decode cX8_letters 2 = .ok (.if_icmp .lt 8, 3) := by decide +kernel
theorem dX8_letters_5 : decode cX8_letters 5 = .ok (.iload_n 1, 1) := by decide +kernel
theorem dX8_letters_6 : decode cX8_letters 6 = .ok (.iconst 3, 1) := by decide +kernel
theorem dX8_letters_7 : decode cX8_letters 7 = .ok (.if_icmp .le 6, 3) := by decide +kernel
theorem dX8_letters_10 : decode cX8_letters 10 = .ok (.ldc 113, 2) := by decide +kernel
theorem dX8_letters_12 : decode cX8_letters 12 = .ok (.ireturn, 1) := by decide +kernel
theorem dX8_letters_13 : decode cX8_letters 13 = .ok (.aload_n 0, 1) := by decide +kernel
theorem dX8_letters_14 : decode cX8_letters 14 = .ok (.getfield 10, 3) := by decide +kernel
theorem dX8_letters_17 : decode cX8_letters 17 = .ok (.getfield 82, 3) := by decide +kernel
theorem dX8_letters_20 : decode cX8_letters 20 = .ok (.istore_n 2, 1) := by decide +kernel
theorem dX8_letters_21 : decode cX8_letters 21 = .ok (.aload_n 0, 1) := by decide +kernel
theorem dX8_letters_22 : decode cX8_letters 22 = .ok (.getfield 19, 3) := by decide +kernel
theorem dX8_letters_25 : decode cX8_letters 25 = .ok (.aload_n 0, 1) := by decide +kernel
theorem dX8_letters_26 : decode cX8_letters 26 = .ok (.getfield 10, 3) := by decide +kernel
theorem dX8_letters_29 : decode cX8_letters 29 = .ok (.invokevirtual 166, 3) := by decide +kernel
theorem dX8_letters_32 : decode cX8_letters 32 = .ok (.aload_n 0, 1) := by decide +kernel
theorem dX8_letters_33 : decode cX8_letters 33 = .ok (.getfield 10, 3) := by decide +kernel
theorem dX8_letters_36 : decode cX8_letters 36 = .ok (.iload_n 1, 1) := by decide +kernel
theorem dX8_letters_37 : decode cX8_letters 37 = .ok (.invokevirtual 181, 3) := by decide +kernel
theorem dX8_letters_40 : decode cX8_letters 40 = .ok (.iload_n 2, 1) := by decide +kernel
theorem dX8_letters_41 : decode cX8_letters 41 = .ok (.ireturn, 1) := by decide +kernel
set_option maxRecDepth 20000 in
theorem ggX8_goes_X6_hasItem : GoodIn wsX8_goes wsX6_hasItem := goodIn_r _ [8, 9, 67, 68, 69, 70, 71, 72, 73, 74] (by decide +kernel) (by decide +kernel)
set_option maxRecDepth 20000 in
theorem gX8_goes_X6_hasItem : GoodIn wsX8_goes (wsV RX8 114 RX6 yX6_hasItem wsX6_hasItem) := goodIn_app (goodIn_of _ (by decide +kernel)) ggX8_goes_X6_hasItem
set_option maxRecDepth 20000 in
theorem ggX8_goes_X6_hasLetter : GoodIn wsX8_goes wsX6_hasLetter := goodIn_r _ [13, 14, 67, 68, 69, 70, 71, 72, 73, 74] (by decide +kernel) (by decide +kernel)
set_option maxRecDepth 20000 in
theorem gX8_goes_X6_hasLetter : GoodIn wsX8_goes (wsV RX8 138 RX6 yX6_hasLetter wsX6_hasLetter) := goodIn_app (goodIn_of _ (by decide +kernel)) ggX8_goes_X6_hasLetter
set_option maxRecDepth 20000 in
theorem ggX8_goes_X6_leadsTo : GoodIn wsX8_goes wsX6_leadsTo := goodIn_r _ [18, 19, 20, 5, 6, 7, 8, 9, 21, 11, 12, 13, 14, 67, 68, 69, 70, 71, 72, 73, 74] (by decide +kernel) (by decide +kernel)
set_option maxRecDepth 20000 in
theorem gX8_goes_X6_leadsTo : GoodIn wsX8_goes (wsV RX8 141 RX6 yX6_leadsTo wsX6_leadsTo) := goodIn_app (goodIn_of _ (by decide +kernel)) ggX8_goes_X6_leadsTo
set_option maxRecDepth 20000 in
theorem ggX8_goes_X2_remember : GoodIn wsX8_goes wsX2_remember := goodIn_r _ [26, 27, 28, 29, 30, 31, 32, 33, 34, 35, 36, 7, 37, 9, 14, 38, 39, 40, 41, 42, 43, 44, 45, 19, 46, 47, 48, 49, 50, 51, 52, 53, 54, 75, 76, 77, 67, 68, 69, 70, 71, 72, 73, 74, 78, 79] (by decide +kernel) (by decide +kernel)
set_option maxRecDepth 20000 in
theorem gX8_goes_X2_remember : GoodIn wsX8_goes (wsV RX8 166 RX2 yX2_remember wsX2_remember) := goodIn_app (goodIn_of _ (by decide +kernel)) ggX8_goes_X2_remember
set_option maxRecDepth 20000 in
theorem ggX8_goes_X6_lead : GoodIn wsX8_goes wsX6_lead := goodIn_r _ [58, 19, 20, 5, 6, 7, 8, 9, 21, 11, 12, 13, 14, 67, 68, 69, 70, 71, 72, 73, 74] (by decide +kernel) (by decide +kernel)
set_option maxRecDepth 20000 in
theorem gX8_goes_X6_lead : GoodIn wsX8_goes (wsV RX8 184 RX6 yX6_lead wsX6_lead) := goodIn_app (goodIn_of _ (by decide +kernel)) ggX8_goes_X6_lead
theorem dX8_goes_0 : decode cX8_goes 0 = .ok (.aload_n 0, 1) := by decide +kernel
theorem dX8_goes_1 : decode cX8_goes 1 = .ok (.getfield 10, 3) := by decide +kernel
theorem dX8_goes_4 : decode cX8_goes 4 = .ok (.iload_n 1, 1) := by decide +kernel
theorem dX8_goes_5 : decode cX8_goes 5 = .ok (.invokevirtual 114, 3) := by decide +kernel
theorem dX8_goes_8 : decode cX8_goes 8 = .ok (.ifCond .eq 25, 3) := by decide +kernel
theorem dX8_goes_11 : decode cX8_goes 11 = .ok (.aload_n 0, 1) := by decide +kernel
theorem dX8_goes_12 : decode cX8_goes 12 = .ok (.getfield 10, 3) := by decide +kernel
theorem dX8_goes_15 : decode cX8_goes 15 = .ok (.iload_n 2, 1) := by decide +kernel
theorem dX8_goes_16 : decode cX8_goes 16 = .ok (.invokevirtual 138, 3) := by decide +kernel
theorem dX8_goes_19 : decode cX8_goes 19 = .ok (.ifCond .eq 14, 3) := by decide +kernel
theorem dX8_goes_22 : decode cX8_goes 22 = .ok (.aload_n 0, 1) := by decide +kernel
theorem dX8_goes_23 : decode cX8_goes 23 = .ok (.getfield 10, 3) := by decide +kernel
theorem dX8_goes_26 : decode cX8_goes 26 = .ok (.iload_n 3, 1) := by decide +kernel
theorem dX8_goes_27 : decode cX8_goes 27 = .ok (.invokevirtual 114, 3) := by decide +kernel
theorem dX8_goes_30 : decode cX8_goes 30 = .ok (.ifCond .ne 6, 3) := by decide +kernel
theorem dX8_goes_33 : decode cX8_goes 33 = .ok (.ldc 118, 2) := by decide +kernel
theorem dX8_goes_35 : decode cX8_goes 35 = .ok (.ireturn, 1) := by decide +kernel
theorem dX8_goes_36 : decode cX8_goes 36 = .ok (.aload_n 0, 1) := by decide +kernel
theorem dX8_goes_37 : decode cX8_goes 37 = .ok (.getfield 10, 3) := by decide +kernel
theorem dX8_goes_40 : decode cX8_goes 40 = .ok (.iload_n 1, 1) := by decide +kernel
theorem dX8_goes_41 : decode cX8_goes 41 = .ok (.iload_n 2, 1) := by decide +kernel
theorem dX8_goes_42 : decode cX8_goes 42 = .ok (.invokevirtual 141, 3) := by decide +kernel
theorem dX8_goes_45 : decode cX8_goes 45 = .ok (.istore 4, 2) := by decide +kernel
theorem dX8_goes_47 : decode cX8_goes 47 = .ok (.aload_n 0, 1) := by decide +kernel
theorem dX8_goes_48 : decode cX8_goes 48 = .ok (.getfield 19, 3) := by decide +kernel
theorem dX8_goes_51 : decode cX8_goes 51 = .ok (.aload_n 0, 1) := by decide +kernel
theorem dX8_goes_52 : decode cX8_goes 52 = .ok (.getfield 10, 3) := by decide +kernel
theorem dX8_goes_55 : decode cX8_goes 55 = .ok (.invokevirtual 166, 3) := by decide +kernel
theorem dX8_goes_58 : decode cX8_goes 58 = .ok (.aload_n 0, 1) := by decide +kernel
theorem dX8_goes_59 : decode cX8_goes 59 = .ok (.getfield 10, 3) := by decide +kernel
theorem dX8_goes_62 : decode cX8_goes 62 = .ok (.iload_n 1, 1) := by decide +kernel
theorem dX8_goes_63 : decode cX8_goes 63 = .ok (.iload_n 2, 1) := by decide +kernel
theorem dX8_goes_64 : decode cX8_goes 64 = .ok (.iload_n 3, 1) := by decide +kernel
theorem dX8_goes_65 : decode cX8_goes 65 = .ok (.invokevirtual 184, 3) := by decide +kernel
theorem dX8_goes_68 : decode cX8_goes 68 = .ok (.iload 4, 2) := by decide +kernel
theorem dX8_goes_70 : decode cX8_goes 70 = .ok (.ireturn, 1) := by decide +kernel
set_option maxRecDepth 20000 in
theorem ggX8_finals_X6_hasItemsOf : GoodIn wsX8_finals wsX6_hasItemsOf := goodIn_r _ [9, 10, 11, 12, 8, 13, 14, 58, 59, 60, 61, 62, 63, 64, 65] (by decide +kernel) (by decide +kernel)
set_option maxRecDepth 20000 in
theorem gX8_finals_X6_hasItemsOf : GoodIn wsX8_finals (wsV RX8 188 RX6 yX6_hasItemsOf wsX6_hasItemsOf) := goodIn_app (goodIn_of _ (by decide +kernel)) ggX8_finals_X6_hasItemsOf
set_option maxRecDepth 20000 in
theorem ggX8_finals_X2_remember : GoodIn wsX8_finals wsX2_remember := goodIn_r _ [19, 20, 21, 22, 23, 24, 25, 26, 27, 28, 29, 8, 30, 14, 31, 32, 33, 34, 35, 36, 37, 38, 39, 40, 41, 42, 43, 44, 45, 46, 47, 48, 49, 66, 67, 68, 58, 59, 60, 61, 62, 63, 64, 65, 69, 70] (by decide +kernel) (by decide +kernel)
set_option maxRecDepth 20000 in
theorem gX8_finals_X2_remember : GoodIn wsX8_finals (wsV RX8 166 RX2 yX2_remember wsX2_remember) := goodIn_app (goodIn_of _ (by decide +kernel)) ggX8_finals_X2_remember
theorem dX8_finals_0 : decode cX8_finals 0 = .ok (.aload_n 0, 1) := by decide +kernel
theorem dX8_finals_1 : decode cX8_finals 1 = .ok (.getfield 10, 3) := by decide +kernel
theorem dX8_finals_4 : decode cX8_finals 4 = .ok (.iload_n 1, 1) := by decide +kernel
theorem dX8_finals_5 : decode cX8_finals 5 = .ok (.invokevirtual 188, 3) := by decide +kernel
theorem dX8_finals_8 : decode cX8_finals 8 = .ok (.ifCond .ne 6, 3) := by decide +kernel
theorem dX8_finals_11 : decode cX8_finals 11 = .ok (.ldc 118, 2) := by decide +kernel
theorem dX8_finals_13 : decode cX8_finals 13 = .ok (.ireturn, 1) := by decide +kernel
theorem dX8_finals_14 : decode cX8_finals 14 = .ok (.aload_n 0, 1) := by decide +kernel
theorem dX8_finals_15 : decode cX8_finals 15 = .ok (.getfield 10, 3) := by decide +kernel
theorem dX8_finals_18 : decode cX8_finals 18 = .ok (.getfield 85, 3) := by decide +kernel
theorem dX8_finals_21 : decode cX8_finals 21 = .ok (.istore_n 2, 1) := by decide +kernel
theorem dX8_finals_22 : decode cX8_finals 22 = .ok (.aload_n 0, 1) := by decide +kernel
theorem dX8_finals_23 : decode cX8_finals 23 = .ok (.getfield 19, 3) := by decide +kernel
theorem dX8_finals_26 : decode cX8_finals 26 = .ok (.aload_n 0, 1) := by decide +kernel
theorem dX8_finals_27 : decode cX8_finals 27 = .ok (.getfield 10, 3) := by decide +kernel
theorem dX8_finals_30 : decode cX8_finals 30 = .ok (.invokevirtual 166, 3) := by decide +kernel
theorem dX8_finals_33 : decode cX8_finals 33 = .ok (.aload_n 0, 1) := by decide +kernel
theorem dX8_finals_34 : decode cX8_finals 34 = .ok (.getfield 10, 3) := by decide +kernel
theorem dX8_finals_37 : decode cX8_finals 37 = .ok (.iload_n 1, 1) := by decide +kernel
theorem dX8_finals_38 : decode cX8_finals 38 = .ok (.putfield 85, 3) := by decide +kernel
theorem dX8_finals_41 : decode cX8_finals 41 = .ok (.iload_n 2, 1) := by decide +kernel
theorem dX8_finals_42 : decode cX8_finals 42 = .ok (.ireturn, 1) := by decide +kernel
set_option maxRecDepth 20000 in
theorem ggX8_begin_X2_remember : GoodIn wsX8_begin wsX2_remember := goodIn_r _ [10, 11, 12, 13, 14, 15, 16, 17, 18, 19, 20, 21, 22, 23, 24, 25, 26, 27, 28, 29, 30, 31, 32, 33, 34, 35, 36, 37, 38, 39, 40, 41, 42, 69, 70, 71, 59, 60, 61, 62, 63, 64, 65, 66, 67, 68] (by decide +kernel) (by decide +kernel)
set_option maxRecDepth 20000 in
theorem gX8_begin_X2_remember : GoodIn wsX8_begin (wsV RX8 166 RX2 yX2_remember wsX2_remember) := goodIn_app (goodIn_of _ (by decide +kernel)) ggX8_begin_X2_remember
set_option maxRecDepth 20000 in
theorem ggX8_begin_X6_all : GoodIn wsX8_begin wsX6_all := goodIn_r _ [46, 23, 59, 60, 61, 62, 63, 64, 65, 66] (by decide +kernel) (by decide +kernel)
set_option maxRecDepth 20000 in
theorem gX8_begin_X6_all : GoodIn wsX8_begin (wsV RX8 191 RX6 yX6_all wsX6_all) := goodIn_app (goodIn_of _ (by decide +kernel)) ggX8_begin_X6_all
set_option maxRecDepth 20000 in
theorem ggX8_begin_X5_gather : GoodIn wsX8_begin wsX5_gather := goodIn_r _ [50, 40, 42, 67, 68] (by decide +kernel) (by decide +kernel)
set_option maxRecDepth 20000 in
theorem gX8_begin_X5_gather : GoodIn wsX8_begin (wsV RX8 194 RX5 yX5_gather wsX5_gather) := goodIn_app (goodIn_of _ (by decide +kernel)) ggX8_begin_X5_gather
theorem dX8_begin_0 : decode cX8_begin 0 = .ok (.aload_n 0, 1) := by decide +kernel
theorem dX8_begin_1 : decode cX8_begin 1 = .ok (.getfield 10, 3) := by decide +kernel
theorem dX8_begin_4 : decode cX8_begin 4 = .ok (.getfield 69, 3) := by decide +kernel
theorem dX8_begin_7 : decode cX8_begin 7 = .ok (.getfield 72, 3) := by decide +kernel
theorem dX8_begin_10 : decode cX8_begin 10 = .ok (.istore_n 1, 1) := by decide +kernel
theorem dX8_begin_11 : decode cX8_begin 11 = .ok (.aload_n 0, 1) := by decide +kernel
theorem dX8_begin_12 : decode cX8_begin 12 = .ok (.getfield 19, 3) := by decide +kernel
theorem dX8_begin_15 : decode cX8_begin 15 = .ok (.aload_n 0, 1) := by decide +kernel
theorem dX8_begin_16 : decode cX8_begin 16 = .ok (.getfield 10, 3) := by decide +kernel
theorem dX8_begin_19 : decode cX8_begin 19 = .ok (.invokevirtual 166, 3) := by decide +kernel
theorem dX8_begin_22 : decode cX8_begin 22 = .ok (.aload_n 0, 1) := by decide +kernel
theorem dX8_begin_23 : decode cX8_begin 23 = .ok (.getfield 10, 3) := by decide +kernel
theorem dX8_begin_26 : decode cX8_begin 26 = .ok (.getfield 69, 3) := by decide +kernel
theorem dX8_begin_29 : decode cX8_begin 29 = .ok (.aload_n 0, 1) := by decide +kernel
theorem dX8_begin_30 : decode cX8_begin 30 = .ok (.getfield 10, 3) := by decide +kernel
theorem dX8_begin_33 : decode cX8_begin 33 = .ok (.invokevirtual 191, 3) := by decide +kernel
theorem dX8_begin_36 : decode cX8_begin 36 = .ok (.invokevirtual 194, 3) := by decide +kernel
theorem dX8_begin_39 : decode cX8_begin 39 = .ok (.aload_n 0, 1) := by decide +kernel
theorem dX8_begin_40 : decode cX8_begin 40 = .ok (.getfield 10, 3) := by decide +kernel
theorem dX8_begin_43 : decode cX8_begin 43 = .ok (.iconst 0, 1) := by decide +kernel
theorem dX8_begin_44 : decode cX8_begin 44 = .ok (.putfield 75, 3) := by decide +kernel
theorem dX8_begin_47 : decode cX8_begin 47 = .ok (.iload_n 1, 1) := by decide +kernel
theorem dX8_begin_48 : decode cX8_begin 48 = .ok (.ireturn, 1) := by decide +kernel
set_option maxRecDepth 20000 in
theorem ggX8_split_X6_hasItemsOf : GoodIn wsX8_split wsX6_hasItemsOf := goodIn_r _ [7, 8, 9, 10, 6, 11, 12, 80, 81, 82, 83, 84, 85, 86, 87] (by decide +kernel) (by decide +kernel)
set_option maxRecDepth 20000 in
theorem gX8_split_X6_hasItemsOf : GoodIn wsX8_split (wsV RX8 188 RX6 yX6_hasItemsOf wsX6_hasItemsOf) := goodIn_app (goodIn_of _ (by decide +kernel)) ggX8_split_X6_hasItemsOf
end
section
set_option maxRecDepth 20000 in
theorem ggX8_split_X8_splitAndCount : GoodIn wsX8_split wsX8_splitAndCount := goodIn_r _ [17, 18, 1, 19, 20, 21, 22, 23, 24, 25, 26, 27, 28, 29, 30, 31, 32, 33, 34, 35, 36, 6, 37, 12, 38, 39, 40, 41, 42, 43, 44, 45, 46, 47, 48, 49, 50, 51, 52, 53, 54, 55, 56, 57, 58, 59, 60, 61, 62, 63, 64, 65, 66, 67, 68, 69, 70, 71, 72, 73, 74, 75, 76, 77, 78, 79, 80, 81, 82, 83, 84, 85, 86, 87, 88, 89, 90, 91, 92] (by decide +kernel) (by decide +kernel)
set_option maxRecDepth 20000 in
theorem gX8_split_X8_splitAndCount : GoodIn wsX8_split (wsV RX8 197 RX8 yX8_splitAndCount wsX8_splitAndCount) := goodIn_app (goodIn_of _ (by decide +kernel)) ggX8_split_X8_splitAndCount
theorem dX8_split_0 : decode cX8_split 0 = .ok (.aload_n 0, 1) := by decide +kernel
theorem dX8_split_1 : decode cX8_split 1 = .ok (.getfield 10, 3) := by decide +kernel
theorem dX8_split_4 : decode cX8_split 4 = .ok (.iload_n 1, 1) := by decide +kernel
theorem dX8_split_5 : decode cX8_split 5 = .ok (.invokevirtual 188, 3) := by decide +kernel
theorem dX8_split_8 : decode cX8_split 8 = .ok (.ifCond .ne 6, 3) := by decide +kernel
theorem dX8_split_11 : decode cX8_split 11 = .ok (.ldc 118, 2) := by decide +kernel
theorem dX8_split_13 : decode cX8_split 13 = .ok (.ireturn, 1) := by decide +kernel
theorem dX8_split_14 : decode cX8_split 14 = .ok (.aload_n 0, 1) := by decide +kernel
theorem dX8_split_15 : decode cX8_split 15 = .ok (.iload_n 1, 1) := by decide +kernel
theorem dX8_split_16 : decode cX8_split 16 = .ok (.invokevirtual 197, 3) := by decide +kernel
theorem dX8_split_19 : decode cX8_split 19 = .ok (.ireturn, 1) := by decide +kernel
set_option maxRecDepth 20000 in
theorem ggX8_by_X8_refusalOfSet : GoodIn wsX8_by wsX8_refusalOfSet := goodIn_r _ [7, 1, 8, 2, 9, 10, 11, 12, 13, 14, 15, 16, 17, 18, 19, 20, 21, 22, 23, 24, 25, 26, 109, 110, 111, 112, 113, 114, 115, 116, 117, 118, 119, 120, 121, 122, 123, 124, 125, 126] (by decide +kernel) (by decide +kernel)
set_option maxRecDepth 20000 in
theorem gX8_by_X8_refusalOfSet : GoodIn wsX8_by (wsV RX8 148 RX8 yX8_refusalOfSet wsX8_refusalOfSet) := goodIn_app (goodIn_of _ (by decide +kernel)) ggX8_by_X8_refusalOfSet
set_option maxRecDepth 20000 in
theorem ggX8_by_X6_setOfKind : GoodIn wsX8_by wsX6_setOfKind := goodIn_r _ [30, 31, 32, 33, 11, 12, 13, 14, 15, 34, 35, 36, 37, 38, 39, 40, 41, 24, 42, 43, 44, 22, 23, 25, 26, 45, 46, 47, 48, 49, 50, 51, 52, 53, 54, 17, 18, 19, 20, 55, 56, 57, 58, 59, 60, 61, 62, 63, 64, 65, 117, 118, 119, 120, 121, 122, 123, 124, 125, 126] (by decide +kernel) (by decide +kernel)
set_option maxRecDepth 20000 in
theorem gX8_by_X6_setOfKind : GoodIn wsX8_by (wsV RX8 152 RX6 yX6_setOfKind wsX6_setOfKind) := goodIn_app (goodIn_of _ (by decide +kernel)) ggX8_by_X6_setOfKind
set_option maxRecDepth 20000 in
theorem ggX8_by_X8_splitAndCount : GoodIn wsX8_by wsX8_splitAndCount := goodIn_r _ [69, 70, 1, 2, 71, 72, 73, 74, 75, 76, 77, 78, 79, 80, 81, 82, 83, 84, 85, 86, 87, 13, 88, 15, 20, 32, 89, 38, 90, 91, 92, 93, 31, 53, 94, 95, 96, 97, 24, 98, 43, 99, 26, 100, 101, 102, 103, 104, 105, 106, 107, 108, 60, 61, 62, 63, 64, 65, 109, 110, 111, 112, 113, 114, 115, 116, 117, 118, 119, 120, 121, 122, 123, 124, 125, 126, 127, 128, 129] (by decide +kernel) (by decide +kernel)
set_option maxRecDepth 20000 in
theorem gX8_by_X8_splitAndCount : GoodIn wsX8_by (wsV RX8 197 RX8 yX8_splitAndCount wsX8_splitAndCount) := goodIn_app (goodIn_of _ (by decide +kernel)) ggX8_by_X8_splitAndCount
theorem dX8_by_0 : decode cX8_by 0 = .ok (.aload_n 0, 1) := by decide +kernel
theorem dX8_by_1 : decode cX8_by 1 = .ok (.iload_n 1, 1) := by decide +kernel
theorem dX8_by_2 : decode cX8_by 2 = .ok (.iload_n 2, 1) := by decide +kernel
theorem dX8_by_3 : decode cX8_by 3 = .ok (.iload_n 3, 1) := by decide +kernel
theorem dX8_by_4 : decode cX8_by 4 = .ok (.invokevirtual 148, 3) := by decide +kernel
theorem dX8_by_7 : decode cX8_by 7 = .ok (.istore 4, 2) := by decide +kernel
theorem dX8_by_9 : decode cX8_by 9 = .ok (.iload 4, 2) := by decide +kernel
theorem dX8_by_11 : decode cX8_by 11 = .ok (.iconst (-1), 1) := by decide +kernel
theorem dX8_by_12 : decode cX8_by 12 = .ok (.if_icmp .eq 8, 3) := by decide +kernel
theorem dX8_by_15 : decode cX8_by 15 = .ok (.iload 4, 2) := by decide +kernel
theorem dX8_by_17 : decode cX8_by 17 = .ok (.goto 24, 3) := by decide +kernel
theorem dX8_by_20 : decode cX8_by 20 = .ok (.aload_n 0, 1) := by decide +kernel
theorem dX8_by_21 : decode cX8_by 21 = .ok (.aload_n 0, 1) := by decide +kernel
theorem dX8_by_22 : decode cX8_by 22 = .ok (.getfield 10, 3) := by decide +kernel
theorem dX8_by_25 : decode cX8_by 25 = .ok (.aload_n 0, 1) := by decide +kernel
theorem dX8_by_26 : decode cX8_by 26 = .ok (.getfield 10, 3) := by decide +kernel
theorem dX8_by_29 : decode cX8_by 29 = .ok (.getfield 69, 3) := by decide +kernel
theorem dX8_by_32 : decode cX8_by 32 = .ok (.iload_n 1, 1) := by decide +kernel
theorem dX8_by_33 : decode cX8_by 33 = .ok (.iload_n 2, 1) := by decide +kernel
theorem dX8_by_34 : decode cX8_by 34 = .ok (.iload_n 3, 1) := by decide +kernel
theorem dX8_by_35 : decode cX8_by 35 = .ok (.invokevirtual 152, 3) := by decide +kernel
theorem dX8_by_38 : decode cX8_by 38 = .ok (.invokevirtual 197, 3) := by decide +kernel
theorem dX8_by_41 : decode cX8_by 41 = .ok (.ireturn, 1) := by decide +kernel
set_option maxRecDepth 20000 in
theorem ggX8_refine_X8_isRefinedKind : GoodIn wsX8_refine wsX8_isRefinedKind := goodIn_r _ [10] (by decide +kernel) (by decide +kernel)
set_option maxRecDepth 20000 in
theorem gX8_refine_X8_isRefinedKind : GoodIn wsX8_refine (va_wsS RX8 156 yX8_isRefinedKind wsX8_isRefinedKind) := goodIn_app (goodIn_of _ (by decide +kernel)) ggX8_refine_X8_isRefinedKind
set_option maxRecDepth 20000 in
theorem ggX8_refine_X2_remember : GoodIn wsX8_refine wsX2_remember := goodIn_r _ [15, 16, 17, 18, 19, 20, 21, 22, 23, 24, 25, 26, 27, 28, 29, 30, 31, 32, 33, 34, 35, 36, 37, 38, 39, 40, 41, 42, 43, 44, 45, 46, 47, 159, 160, 161, 149, 150, 151, 152, 153, 154, 155, 156, 157, 158] (by decide +kernel) (by decide +kernel)
set_option maxRecDepth 20000 in
theorem gX8_refine_X2_remember : GoodIn wsX8_refine (wsV RX8 166 RX2 yX2_remember wsX2_remember) := goodIn_app (goodIn_of _ (by decide +kernel)) ggX8_refine_X2_remember
set_option maxRecDepth 20000 in
theorem ggX8_refine_X4_refineRow : GoodIn wsX8_refine wsX4_refineRow := goodIn_r _ [52, 53, 54, 55, 56, 43, 57, 47, 45, 58, 59, 60, 61, 62, 63, 64, 51, 65, 66, 67, 68, 41, 42, 44, 46, 34, 35, 36, 69, 70, 71, 72, 73, 74, 75, 76, 77, 78, 79, 80, 81, 82, 83, 84, 26, 85, 28, 86, 87, 88, 89, 38, 90, 91, 92, 93, 94, 95, 96, 97, 29, 98, 99, 100, 101, 102, 103, 104, 105, 106, 107, 108, 109, 110, 111, 112, 37, 113, 114, 115, 116, 117, 118, 119, 120, 121, 122, 123, 124, 125, 126, 127, 128, 129, 130, 131, 132, 133, 30, 134, 135, 136, 137, 32, 138, 139, 140, 149, 150, 151, 152, 153, 154, 155, 156, 157, 158, 162] (by decide +kernel) (by decide +kernel)
set_option maxRecDepth 20000 in
theorem gX8_refine_X4_refineRow : GoodIn wsX8_refine (wsV RX8 200 RX4 yX4_refineRow wsX4_refineRow) := goodIn_app (goodIn_of _ (by decide +kernel)) ggX8_refine_X4_refineRow
theorem dX8_refine_0 : decode cX8_refine 0 = .ok (.iload_n 1, 1) := by decide +kernel
theorem dX8_refine_1 : decode cX8_refine 1 = .ok (.invokestatic 156, 3) := by decide +kernel
theorem dX8_refine_4 : decode cX8_refine 4 = .ok (.ifCond .ne 6, 3) := by decide +kernel
theorem dX8_refine_7 : decode cX8_refine 7 = .ok (.ldc 113, 2) := by decide +kernel
theorem dX8_refine_9 : decode cX8_refine 9 = .ok (.ireturn, 1) := by decide +kernel
theorem dX8_refine_10 : decode cX8_refine 10 = .ok (.aload_n 0, 1) := by decide +kernel
theorem dX8_refine_11 : decode cX8_refine 11 = .ok (.getfield 19, 3) := by decide +kernel
theorem dX8_refine_14 : decode cX8_refine 14 = .ok (.aload_n 0, 1) := by decide +kernel
theorem dX8_refine_15 : decode cX8_refine 15 = .ok (.getfield 10, 3) := by decide +kernel
theorem dX8_refine_18 : decode cX8_refine 18 = .ok (.invokevirtual 166, 3) := by decide +kernel
theorem dX8_refine_21 : decode cX8_refine 21 = .ok (.aload_n 0, 1) := by decide +kernel
theorem dX8_refine_22 : decode cX8_refine 22 = .ok (.getfield 40, 3) := by decide +kernel
theorem dX8_refine_25 : decode cX8_refine 25 = .ok (.aload_n 0, 1) := by decide +kernel
theorem dX8_refine_26 : decode cX8_refine 26 = .ok (.getfield 10, 3) := by decide +kernel
theorem dX8_refine_29 : decode cX8_refine 29 = .ok (.aload_n 0, 1) := by decide +kernel
theorem dX8_refine_30 : decode cX8_refine 30 = .ok (.getfield 10, 3) := by decide +kernel
theorem dX8_refine_33 : decode cX8_refine 33 = .ok (.getfield 69, 3) := by decide +kernel
theorem dX8_refine_36 : decode cX8_refine 36 = .ok (.iload_n 1, 1) := by decide +kernel
theorem dX8_refine_37 : decode cX8_refine 37 = .ok (.invokevirtual 200, 3) := by decide +kernel
theorem dX8_refine_40 : decode cX8_refine 40 = .ok (.aload_n 0, 1) := by decide +kernel
theorem dX8_refine_41 : decode cX8_refine 41 = .ok (.getfield 10, 3) := by decide +kernel
theorem dX8_refine_44 : decode cX8_refine 44 = .ok (.getfield 69, 3) := by decide +kernel
theorem dX8_refine_47 : decode cX8_refine 47 = .ok (.getfield 72, 3) := by decide +kernel
theorem dX8_refine_50 : decode cX8_refine 50 = .ok (.ireturn, 1) := by decide +kernel
set_option maxRecDepth 20000 in
theorem ggX8_join_X2_remember : GoodIn wsX8_join wsX2_remember := goodIn_r _ [10, 11, 12, 13, 14, 15, 16, 17, 18, 19, 20, 21, 22, 23, 24, 25, 26, 27, 28, 29, 30, 31, 32, 33, 34, 35, 36, 37, 38, 39, 40, 41, 42, 73, 74, 75, 63, 64, 65, 66, 67, 68, 69, 70, 71, 72] (by decide +kernel) (by decide +kernel)
set_option maxRecDepth 20000 in
theorem gX8_join_X2_remember : GoodIn wsX8_join (wsV RX8 166 RX2 yX2_remember wsX2_remember) := goodIn_app (goodIn_of _ (by decide +kernel)) ggX8_join_X2_remember
set_option maxRecDepth 20000 in
theorem ggX8_join_X5_mergeWithNext : GoodIn wsX8_join wsX5_mergeWithNext := goodIn_r _ [46, 42, 40, 47, 48, 49, 38, 50, 51, 52, 53, 54, 71, 72] (by decide +kernel) (by decide +kernel)
set_option maxRecDepth 20000 in
theorem gX8_join_X5_mergeWithNext : GoodIn wsX8_join (wsV RX8 204 RX5 yX5_mergeWithNext wsX5_mergeWithNext) := goodIn_app (goodIn_of _ (by decide +kernel)) ggX8_join_X5_mergeWithNext
theorem dX8_join_0 : decode cX8_join 0 = .ok (.iload_n 1, 1) := by decide +kernel
theorem dX8_join_1 : decode cX8_join 1 = .ok (.ifCond .lt 19, 3) := by decide +kernel
theorem dX8_join_4 : decode cX8_join 4 = .ok (.iload_n 1, 1) := by decide +kernel
theorem dX8_join_5 : decode cX8_join 5 = .ok (.aload_n 0, 1) := by decide +kernel
theorem dX8_join_6 : decode cX8_join 6 = .ok (.getfield 10, 3) := by decide +kernel
theorem dX8_join_9 : decode cX8_join 9 = .ok (.getfield 69, 3) := by decide +kernel
theorem dX8_join_12 : decode cX8_join 12 = .ok (.getfield 72, 3) := by decide +kernel
theorem dX8_join_15 : decode cX8_join 15 = .ok (.iconst 1, 1) := by decide +kernel
theorem dX8_join_16 : decode cX8_join 16 = .ok (.isub, 1) := by decide +kernel
theorem dX8_join_17 : decode cX8_join 17 = .ok (.if_icmp .lt 6, 3) := by decide +kernel
theorem dX8_join_20 : decode cX8_join 20 = .ok (.ldc 118, 2) := by decide +kernel
theorem dX8_join_22 : decode cX8_join 22 = .ok (.ireturn, 1) := by decide +kernel
theorem dX8_join_23 : decode cX8_join 23 = .ok (.aload_n 0, 1) := by decide +kernel
theorem dX8_join_24 : decode cX8_join 24 = .ok (.getfield 19, 3) := by decide +kernel
theorem dX8_join_27 : decode cX8_join 27 = .ok (.aload_n 0, 1) := by decide +kernel
theorem dX8_join_28 : decode cX8_join 28 = .ok (.getfield 10, 3) := by decide +kernel
theorem dX8_join_31 : decode cX8_join 31 = .ok (.invokevirtual 166, 3) := by decide +kernel
theorem dX8_join_34 : decode cX8_join 34 = .ok (.aload_n 0, 1) := by decide +kernel
theorem dX8_join_35 : decode cX8_join 35 = .ok (.getfield 10, 3) := by decide +kernel
theorem dX8_join_38 : decode cX8_join 38 = .ok (.getfield 69, 3) := by decide +kernel
theorem dX8_join_41 : decode cX8_join 41 = .ok (.iload_n 1, 1) := by decide +kernel
theorem dX8_join_42 : decode cX8_join 42 = .ok (.invokevirtual 204, 3) := by decide +kernel
theorem dX8_join_45 : decode cX8_join 45 = .ok (.aload_n 0, 1) := by decide +kernel
theorem dX8_join_46 : decode cX8_join 46 = .ok (.getfield 10, 3) := by decide +kernel
theorem dX8_join_49 : decode cX8_join 49 = .ok (.getfield 69, 3) := by decide +kernel
theorem dX8_join_52 : decode cX8_join 52 = .ok (.getfield 72, 3) := by decide +kernel
theorem dX8_join_55 : decode cX8_join 55 = .ok (.ireturn, 1) := by decide +kernel
set_option maxRecDepth 20000 in
theorem ggX8_arrange_X2_remember : GoodIn wsX8_arrange wsX2_remember := goodIn_r _ [9, 10, 11, 12, 13, 14, 15, 16, 17, 18, 19, 20, 21, 22, 23, 24, 25, 26, 27, 28, 29, 30, 31, 32, 33, 34, 35, 36, 37, 38, 39, 40, 41, 83, 84, 85, 75, 76, 77, 78, 79, 80, 81, 82, 86, 87] (by decide +kernel) (by decide +kernel)
set_option maxRecDepth 20000 in
theorem gX8_arrange_X2_remember : GoodIn wsX8_arrange (wsV RX8 166 RX2 yX2_remember wsX2_remember) := goodIn_app (goodIn_of _ (by decide +kernel)) ggX8_arrange_X2_remember
set_option maxRecDepth 20000 in
theorem ggX8_arrange_X5_copyFrom : GoodIn wsX8_arrange wsX5_copyFrom := goodIn_r _ [38, 39, 40, 28, 29, 30, 41, 86, 87] (by decide +kernel) (by decide +kernel)
set_option maxRecDepth 20000 in
theorem gX8_arrange_X5_copyFrom : GoodIn wsX8_arrange (wsV RX8 207 RX5 yX5_copyFrom wsX5_copyFrom) := goodIn_app (goodIn_of _ (by decide +kernel)) ggX8_arrange_X5_copyFrom
set_option maxRecDepth 20000 in
theorem ggX8_arrange_X5_sortByLeast : GoodIn wsX8_arrange wsX5_sortByLeast := goodIn_r _ [46, 41, 39, 47, 48, 37, 49, 50, 51, 52, 53, 54, 86, 87] (by decide +kernel) (by decide +kernel)
set_option maxRecDepth 20000 in
theorem gX8_arrange_X5_sortByLeast : GoodIn wsX8_arrange (wsV RX8 211 RX5 yX5_sortByLeast wsX5_sortByLeast) := goodIn_app (goodIn_of _ (by decide +kernel)) ggX8_arrange_X5_sortByLeast
set_option maxRecDepth 20000 in
theorem ggX8_arrange_X5_differingFrom : GoodIn wsX8_arrange wsX5_differingFrom := goodIn_r _ [58, 41, 39, 59, 60, 61, 37, 62, 63, 64, 65, 66, 86, 87] (by decide +kernel) (by decide +kernel)
set_option maxRecDepth 20000 in
theorem gX8_arrange_X5_differingFrom : GoodIn wsX8_arrange (wsV RX8 214 RX5 yX5_differingFrom wsX5_differingFrom) := goodIn_app (goodIn_of _ (by decide +kernel)) ggX8_arrange_X5_differingFrom
theorem dX8_arrange_0 : decode cX8_arrange 0 = .ok (.aload_n 0, 1) := by decide +kernel
theorem dX8_arrange_1 : decode cX8_arrange 1 = .ok (.getfield 19, 3) := by decide +kernel
theorem dX8_arrange_4 : decode cX8_arrange 4 = .ok (.aload_n 0, 1) := by decide +kernel
theorem dX8_arrange_5 : decode cX8_arrange 5 = .ok (.getfield 10, 3) := by decide +kernel
theorem dX8_arrange_8 : decode cX8_arrange 8 = .ok (.invokevirtual 166, 3) := by decide +kernel
theorem dX8_arrange_11 : decode cX8_arrange 11 = .ok (.aload_n 0, 1) := by decide +kernel
theorem dX8_arrange_12 : decode cX8_arrange 12 = .ok (.getfield 54, 3) := by decide +kernel
theorem dX8_arrange_15 : decode cX8_arrange 15 = .ok (.aload_n 0, 1) := by decide +kernel
theorem dX8_arrange_16 : decode cX8_arrange 16 = .ok (.getfield 10, 3) := by decide +kernel
theorem dX8_arrange_19 : decode cX8_arrange 19 = .ok (.getfield 69, 3) := by decide +kernel
theorem dX8_arrange_22 : decode cX8_arrange 22 = .ok (.invokevirtual 207, 3) := by decide +kernel
theorem dX8_arrange_25 : decode cX8_arrange 25 = .ok (.aload_n 0, 1) := by decide +kernel
theorem dX8_arrange_26 : decode cX8_arrange 26 = .ok (.getfield 10, 3) := by decide +kernel
theorem dX8_arrange_29 : decode cX8_arrange 29 = .ok (.getfield 69, 3) := by decide +kernel
theorem dX8_arrange_32 : decode cX8_arrange 32 = .ok (.invokevirtual 211, 3) := by decide +kernel
theorem dX8_arrange_35 : decode cX8_arrange 35 = .ok (.aload_n 0, 1) := by decide +kernel
theorem dX8_arrange_36 : decode cX8_arrange 36 = .ok (.getfield 10, 3) := by decide +kernel
theorem dX8_arrange_39 : decode cX8_arrange 39 = .ok (.getfield 69, 3) := by decide +kernel
theorem dX8_arrange_42 : decode cX8_arrange 42 = .ok (.aload_n 0, 1) := by decide +kernel
theorem dX8_arrange_43 : decode cX8_arrange 43 = .ok (.getfield 54, 3) := by decide +kernel
theorem dX8_arrange_46 : decode cX8_arrange 46 = .ok (.invokevirtual 214, 3) := by decide +kernel
theorem dX8_arrange_49 : decode cX8_arrange 49 = .ok (.ireturn, 1) := by decide +kernel
set_option maxRecDepth 20000 in
theorem ggX8_drift_X2_remember : GoodIn wsX8_drift wsX2_remember := goodIn_r _ [9, 10, 11, 12, 13, 14, 15, 16, 17, 18, 19, 20, 21, 22, 23, 24, 25, 26, 27, 28, 29, 30, 31, 32, 33, 34, 35, 36, 37, 38, 39, 40, 41, 108, 109, 110, 111, 112, 113, 114, 115, 116, 117, 118, 119, 120] (by decide +kernel) (by decide +kernel)
set_option maxRecDepth 20000 in
theorem gX8_drift_X2_remember : GoodIn wsX8_drift (wsV RX8 166 RX2 yX2_remember wsX2_remember) := goodIn_app (goodIn_of _ (by decide +kernel)) ggX8_drift_X2_remember
set_option maxRecDepth 20000 in
theorem ggX8_drift_X1_change : GoodIn wsX8_drift wsX1_change := goodIn_r _ [46, 47, 48, 49, 50, 51, 45, 52, 53, 54, 55, 56, 57, 58, 59, 60, 61, 62, 63, 64, 20, 65, 31, 66, 67, 68, 69, 22, 70, 71, 72, 73, 74, 75, 76, 77, 78, 79, 80, 81, 82, 83, 84, 32, 85, 86, 87, 88, 23, 111, 112, 113, 114, 115, 116, 117, 118, 121] (by decide +kernel) (by decide +kernel)
set_option maxRecDepth 20000 in
theorem gX8_drift_X1_change : GoodIn wsX8_drift (wsV RX8 218 RX1 yX1_change wsX1_change) := goodIn_app (goodIn_of _ (by decide +kernel)) ggX8_drift_X1_change
set_option maxRecDepth 20000 in
theorem ggX8_drift_X6_edgeCount : GoodIn wsX8_drift wsX6_edgeCount := goodIn_r _ [92, 22, 31, 93, 94, 95, 96, 97, 98, 99, 111, 112, 113, 114, 115, 116, 117, 118] (by decide +kernel) (by decide +kernel)
set_option maxRecDepth 20000 in
theorem gX8_drift_X6_edgeCount : GoodIn wsX8_drift (wsV RX8 78 RX6 yX6_edgeCount wsX6_edgeCount) := goodIn_app (goodIn_of _ (by decide +kernel)) ggX8_drift_X6_edgeCount
theorem dX8_drift_0 : decode cX8_drift 0 = .ok (.iload_n 1, 1) := by decide +kernel
theorem dX8_drift_1 : decode cX8_drift 1 = .ok (.iconst 1, 1) := by decide +kernel
theorem dX8_drift_2 : decode cX8_drift 2 = .ok (.if_icmp .lt 9, 3) := by decide +kernel
theorem dX8_drift_5 : decode cX8_drift 5 = .ok (.iload_n 1, 1) := by decide +kernel
theorem dX8_drift_6 : decode cX8_drift 6 = .ok (.bipush 12, 2) := by decide +kernel
theorem dX8_drift_8 : decode cX8_drift 8 = .ok (.if_icmp .le 6, 3) := by decide +kernel
theorem dX8_drift_11 : decode cX8_drift 11 = .ok (.ldc 113, 2) := by decide +kernel
theorem dX8_drift_13 : decode cX8_drift 13 = .ok (.ireturn, 1) := by decide +kernel
theorem dX8_drift_14 : decode cX8_drift 14 = .ok (.iconst 0, 1) := by decide +kernel
theorem dX8_drift_15 : decode cX8_drift 15 = .ok (.istore_n 2, 1) := by decide +kernel
theorem dX8_drift_16 : decode cX8_drift 16 = .ok (.iload_n 2, 1) := by decide +kernel
theorem dX8_drift_17 : decode cX8_drift 17 = .ok (.iload_n 1, 1) := by decide +kernel
theorem dX8_drift_18 : decode cX8_drift 18 = .ok (.if_icmp .ge 31, 3) := by decide +kernel
theorem dX8_drift_21 : decode cX8_drift 21 = .ok (.aload_n 0, 1) := by decide +kernel
theorem dX8_drift_22 : decode cX8_drift 22 = .ok (.getfield 19, 3) := by decide +kernel
theorem dX8_drift_25 : decode cX8_drift 25 = .ok (.aload_n 0, 1) := by decide +kernel
theorem dX8_drift_26 : decode cX8_drift 26 = .ok (.getfield 10, 3) := by decide +kernel
theorem dX8_drift_29 : decode cX8_drift 29 = .ok (.invokevirtual 166, 3) := by decide +kernel
theorem dX8_drift_32 : decode cX8_drift 32 = .ok (.aload_n 0, 1) := by decide +kernel
theorem dX8_drift_33 : decode cX8_drift 33 = .ok (.getfield 61, 3) := by decide +kernel
theorem dX8_drift_36 : decode cX8_drift 36 = .ok (.aload_n 0, 1) := by decide +kernel
theorem dX8_drift_37 : decode cX8_drift 37 = .ok (.getfield 10, 3) := by decide +kernel
theorem dX8_drift_40 : decode cX8_drift 40 = .ok (.invokevirtual 218, 3) := by decide +kernel
theorem dX8_drift_43 : decode cX8_drift 43 = .ok (.iinc 2 1, 3) := by decide +kernel
theorem dX8_drift_46 : decode cX8_drift 46 = .ok (.goto (-30), 3) := by decide +kernel
theorem dX8_drift_49 : decode cX8_drift 49 = .ok (.aload_n 0, 1) := by decide +kernel
theorem dX8_drift_50 : decode cX8_drift 50 = .ok (.getfield 10, 3) := by decide +kernel
theorem dX8_drift_53 : decode cX8_drift 53 = .ok (.invokevirtual 78, 3) := by decide +kernel
theorem dX8_drift_56 : decode cX8_drift 56 = .ok (.ireturn, 1) := by decide +kernel
set_option maxRecDepth 20000 in
theorem ggX8_undo_X2_takeBack : GoodIn wsX8_undo wsX2_takeBack := goodIn_r _ [10, 11, 12, 13, 14, 15, 16, 17, 18, 19, 20, 21, 22, 23, 24, 25, 26, 27, 28, 29, 30, 31, 32, 33, 34, 35, 36, 37, 38, 39, 40, 41, 42, 51, 52, 53, 54, 55, 56, 57, 58, 59, 60, 61, 62, 63] (by decide +kernel) (by decide +kernel)
set_option maxRecDepth 20000 in
theorem gX8_undo_X2_takeBack : GoodIn wsX8_undo (wsV RX8 222 RX2 yX2_takeBack wsX2_takeBack) := goodIn_app (goodIn_of _ (by decide +kernel)) ggX8_undo_X2_takeBack
theorem dX8_undo_0 : decode cX8_undo 0 = .ok (.iload_n 1, 1) := by decide +kernel
theorem dX8_undo_1 : decode cX8_undo 1 = .ok (.iconst 1, 1) := by decide +kernel
theorem dX8_undo_2 : decode cX8_undo 2 = .ok (.if_icmp .lt 9, 3) := by decide +kernel
theorem dX8_undo_5 : decode cX8_undo 5 = .ok (.iload_n 1, 1) := by decide +kernel
theorem dX8_undo_6 : decode cX8_undo 6 = .ok (.bipush 16, 2) := by decide +kernel
theorem dX8_undo_8 : decode cX8_undo 8 = .ok (.if_icmp .le 6, 3) := by decide +kernel
theorem dX8_undo_11 : decode cX8_undo 11 = .ok (.ldc 113, 2) := by decide +kernel
theorem dX8_undo_13 : decode cX8_undo 13 = .ok (.ireturn, 1) := by decide +kernel
theorem dX8_undo_14 : decode cX8_undo 14 = .ok (.iload_n 1, 1) := by decide +kernel
theorem dX8_undo_15 : decode cX8_undo 15 = .ok (.aload_n 0, 1) := by decide +kernel
theorem dX8_undo_16 : decode cX8_undo 16 = .ok (.getfield 19, 3) := by decide +kernel
theorem dX8_undo_19 : decode cX8_undo 19 = .ok (.getfield 109, 3) := by decide +kernel
theorem dX8_undo_22 : decode cX8_undo 22 = .ok (.if_icmp .le 6, 3) := by decide +kernel
theorem dX8_undo_25 : decode cX8_undo 25 = .ok (.ldc 221, 2) := by decide +kernel
theorem dX8_undo_27 : decode cX8_undo 27 = .ok (.ireturn, 1) := by decide +kernel
theorem dX8_undo_28 : decode cX8_undo 28 = .ok (.aload_n 0, 1) := by decide +kernel
theorem dX8_undo_29 : decode cX8_undo 29 = .ok (.getfield 19, 3) := by decide +kernel
theorem dX8_undo_32 : decode cX8_undo 32 = .ok (.iload_n 1, 1) := by decide +kernel
theorem dX8_undo_33 : decode cX8_undo 33 = .ok (.aload_n 0, 1) := by decide +kernel
theorem dX8_undo_34 : decode cX8_undo 34 = .ok (.getfield 10, 3) := by decide +kernel
theorem dX8_undo_37 : decode cX8_undo 37 = .ok (.invokevirtual 222, 3) := by decide +kernel
theorem dX8_undo_40 : decode cX8_undo 40 = .ok (.aload_n 0, 1) := by decide +kernel
theorem dX8_undo_41 : decode cX8_undo 41 = .ok (.getfield 19, 3) := by decide +kernel
theorem dX8_undo_44 : decode cX8_undo 44 = .ok (.getfield 109, 3) := by decide +kernel
theorem dX8_undo_47 : decode cX8_undo 47 = .ok (.ireturn, 1) := by decide +kernel
set_option maxRecDepth 20000 in
theorem ggX8_write_X6_hasItem : GoodIn wsX8_write wsX6_hasItem := goodIn_r _ [10, 11, 31, 32, 33, 34, 35, 36, 37, 38] (by decide +kernel) (by decide +kernel)
set_option maxRecDepth 20000 in
theorem gX8_write_X6_hasItem : GoodIn wsX8_write (wsV RX8 114 RX6 yX6_hasItem wsX6_hasItem) := goodIn_app (goodIn_of _ (by decide +kernel)) ggX8_write_X6_hasItem
set_option maxRecDepth 20000 in
theorem ggX8_write_X0_append : GoodIn wsX8_write wsX0_append := goodIn_r _ [16, 17, 18, 19, 28, 29, 30] (by decide +kernel) (by decide +kernel)
set_option maxRecDepth 20000 in
theorem gX8_write_X0_append : GoodIn wsX8_write (wsV RX8 227 RX0 yX0_append wsX0_append) := goodIn_app (goodIn_of _ (by decide +kernel)) ggX8_write_X0_append
theorem dX8_write_0 : decode cX8_write 0 = .ok (.aload_n 0, 1) := by decide +kernel
theorem dX8_write_1 : decode cX8_write 1 = .ok (.getfield 10, 3) := by decide +kernel
theorem dX8_write_4 : decode cX8_write 4 = .ok (.iload_n 1, 1) := by decide +kernel
theorem dX8_write_5 : decode cX8_write 5 = .ok (.invokevirtual 114, 3) := by decide +kernel
theorem dX8_write_8 : decode cX8_write 8 = .ok (.ifCond .ne 6, 3) := by decide +kernel
theorem dX8_write_11 : decode cX8_write 11 = .ok (.ldc 118, 2) := by decide +kernel
theorem dX8_write_13 : decode cX8_write 13 = .ok (.ireturn, 1) := by decide +kernel
theorem dX8_write_14 : decode cX8_write 14 = .ok (.aload_n 0, 1) := by decide +kernel
theorem dX8_write_15 : decode cX8_write 15 = .ok (.getfield 26, 3) := by decide +kernel
theorem dX8_write_18 : decode cX8_write 18 = .ok (.getfield 103, 3) := by decide +kernel
theorem dX8_write_21 : decode cX8_write 21 = .ok (.bipush 20, 2) := by decide +kernel
theorem dX8_write_23 : decode cX8_write 23 = .ok (.if_icmp .lt 6, 3) := by decide +kernel
theorem dX8_write_26 : decode cX8_write 26 = .ok (.ldc 226, 2) := by decide +kernel
theorem dX8_write_28 : decode cX8_write 28 = .ok (.ireturn, 1) := by decide +kernel
theorem dX8_write_29 : decode cX8_write 29 = .ok (.aload_n 0, 1) := by decide +kernel
theorem dX8_write_30 : decode cX8_write 30 = .ok (.getfield 26, 3) := by decide +kernel
theorem dX8_write_33 : decode cX8_write 33 = .ok (.iload_n 1, 1) := by decide +kernel
theorem dX8_write_34 : decode cX8_write 34 = .ok (.iload_n 2, 1) := by decide +kernel
theorem dX8_write_35 : decode cX8_write 35 = .ok (.invokevirtual 227, 3) := by decide +kernel
theorem dX8_write_38 : decode cX8_write 38 = .ok (.aload_n 0, 1) := by decide +kernel
theorem dX8_write_39 : decode cX8_write 39 = .ok (.getfield 26, 3) := by decide +kernel
theorem dX8_write_42 : decode cX8_write 42 = .ok (.getfield 103, 3) := by decide +kernel
theorem dX8_write_45 : decode cX8_write 45 = .ok (.ireturn, 1) := by decide +kernel
theorem dX8_tear_0 : decode cX8_tear 0 = .ok (.aload_n 0, 1) := by decide +kernel
theorem dX8_tear_1 : decode cX8_tear 1 = .ok (.getfield 26, 3) := by decide +kernel
theorem dX8_tear_4 : decode cX8_tear 4 = .ok (.getfield 103, 3) := by decide +kernel
theorem dX8_tear_7 : decode cX8_tear 7 = .ok (.istore_n 1, 1) := by decide +kernel
theorem dX8_tear_8 : decode cX8_tear 8 = .ok (.aload_n 0, 1) := by decide +kernel
theorem dX8_tear_9 : decode cX8_tear 9 = .ok (.getfield 26, 3) := by decide +kernel
theorem dX8_tear_12 : decode cX8_tear 12 = .ok (.iconst 0, 1) := by decide +kernel
theorem dX8_tear_13 : decode cX8_tear 13 = .ok (.putfield 103, 3) := by decide +kernel
theorem dX8_tear_16 : decode cX8_tear 16 = .ok (.iload_n 1, 1) := by decide +kernel
theorem dX8_tear_17 : decode cX8_tear 17 = .ok (.ireturn, 1) := by decide +kernel
theorem dX8_seed_0 : decode cX8_seed 0 = .ok (.iload_n 1, 1) := by decide +kernel
theorem dX8_seed_1 : decode cX8_seed 1 = .ok (.ifCond .ge 6, 3) := by decide +kernel
theorem dX8_seed_4 : decode cX8_seed 4 = .ok (.ldc 113, 2) := by decide +kernel
theorem dX8_seed_6 : decode cX8_seed 6 = .ok (.ireturn, 1) := by decide +kernel
theorem dX8_seed_7 : decode cX8_seed 7 = .ok (.aload_n 0, 1) := by decide +kernel
theorem dX8_seed_8 : decode cX8_seed 8 = .ok (.getfield 61, 3) := by decide +kernel
theorem dX8_seed_11 : decode cX8_seed 11 = .ok (.getfield 110, 3) := by decide +kernel
theorem dX8_seed_14 : decode cX8_seed 14 = .ok (.istore_n 2, 1) := by decide +kernel
theorem dX8_seed_15 : decode cX8_seed 15 = .ok (.aload_n 0, 1) := by decide +kernel
theorem dX8_seed_16 : decode cX8_seed 16 = .ok (.getfield 61, 3) := by decide +kernel
theorem dX8_seed_19 : decode cX8_seed 19 = .ok (.iload_n 1, 1) := by decide +kernel
theorem dX8_seed_20 : decode cX8_seed 20 = .ok (.putfield 110, 3) := by decide +kernel
theorem dX8_seed_23 : decode cX8_seed 23 = .ok (.iload_n 2, 1) := by decide +kernel
theorem dX8_seed_24 : decode cX8_seed 24 = .ok (.ireturn, 1) := by decide +kernel
set_option maxRecDepth 20000 in
theorem ggX8_keep_X6_copyFrom : GoodIn wsX8_keep wsX6_copyFrom := goodIn_r _ [15, 16, 17, 18, 19, 20, 21, 22, 23, 24, 25, 26, 27, 28, 29, 30, 31, 32, 33, 34, 35, 51, 52, 53, 54, 55, 56, 57, 58, 59, 60] (by decide +kernel) (by decide +kernel)
set_option maxRecDepth 20000 in
theorem gX8_keep_X6_copyFrom : GoodIn wsX8_keep (wsV RX8 236 RX6 yX6_copyFrom wsX6_copyFrom) := goodIn_app (goodIn_of _ (by decide +kernel)) ggX8_keep_X6_copyFrom
theorem dX8_keep_0 : decode cX8_keep 0 = .ok (.iload_n 1, 1) := by decide +kernel
theorem dX8_keep_1 : decode cX8_keep 1 = .ok (.ifCond .lt 8, 3) := by decide +kernel
theorem dX8_keep_4 : decode cX8_keep 4 = .ok (.iload_n 1, 1) := by decide +kernel
theorem dX8_keep_5 : decode cX8_keep 5 = .ok (.iconst 2, 1) := by decide +kernel
theorem dX8_keep_6 : decode cX8_keep 6 = .ok (.if_icmp .lt 6, 3) := by decide +kernel
theorem dX8_keep_9 : decode cX8_keep 9 = .ok (.ldc 118, 2) := by decide +kernel
theorem dX8_keep_11 : decode cX8_keep 11 = .ok (.ireturn, 1) := by decide +kernel
theorem dX8_keep_12 : decode cX8_keep 12 = .ok (.aload_n 0, 1) := by decide +kernel
theorem dX8_keep_13 : decode cX8_keep 13 = .ok (.getfield 32, 3) := by decide +kernel
theorem dX8_keep_16 : decode cX8_keep 16 = .ok (.iload_n 1, 1) := by decide +kernel
theorem dX8_keep_17 : decode cX8_keep 17 = .ok (.aaload, 1) := by decide +kernel
theorem dX8_keep_18 : decode cX8_keep 18 = .ok (.iconst 1, 1) := by decide +kernel
theorem dX8_keep_19 : decode cX8_keep 19 = .ok (.putfield 230, 3) := by decide +kernel
theorem dX8_keep_22 : decode cX8_keep 22 = .ok (.aload_n 0, 1) := by decide +kernel
theorem dX8_keep_23 : decode cX8_keep 23 = .ok (.getfield 32, 3) := by decide +kernel
theorem dX8_keep_26 : decode cX8_keep 26 = .ok (.iload_n 1, 1) := by decide +kernel
theorem dX8_keep_27 : decode cX8_keep 27 = .ok (.aaload, 1) := by decide +kernel
theorem dX8_keep_28 : decode cX8_keep 28 = .ok (.getfield 234, 3) := by decide +kernel
theorem dX8_keep_31 : decode cX8_keep 31 = .ok (.aload_n 0, 1) := by decide +kernel
theorem dX8_keep_32 : decode cX8_keep 32 = .ok (.getfield 10, 3) := by decide +kernel
theorem dX8_keep_35 : decode cX8_keep 35 = .ok (.invokevirtual 236, 3) := by decide +kernel
theorem dX8_keep_38 : decode cX8_keep 38 = .ok (.aload_n 0, 1) := by decide +kernel
theorem dX8_keep_39 : decode cX8_keep 39 = .ok (.getfield 32, 3) := by decide +kernel
theorem dX8_keep_42 : decode cX8_keep 42 = .ok (.iload_n 1, 1) := by decide +kernel
theorem dX8_keep_43 : decode cX8_keep 43 = .ok (.aaload, 1) := by decide +kernel
theorem dX8_keep_44 : decode cX8_keep 44 = .ok (.aload_n 0, 1) := by decide +kernel
theorem dX8_keep_45 : decode cX8_keep 45 = .ok (.getfield 61, 3) := by decide +kernel
theorem dX8_keep_48 : decode cX8_keep 48 = .ok (.getfield 110, 3) := by decide +kernel
theorem dX8_keep_51 : decode cX8_keep 51 = .ok (.putfield 238, 3) := by decide +kernel
theorem dX8_keep_54 : decode cX8_keep 54 = .ok (.aload_n 0, 1) := by decide +kernel
theorem dX8_keep_55 : decode cX8_keep 55 = .ok (.getfield 19, 3) := by decide +kernel
theorem dX8_keep_58 : decode cX8_keep 58 = .ok (.iconst 0, 1) := by decide +kernel
theorem dX8_keep_59 : decode cX8_keep 59 = .ok (.putfield 109, 3) := by decide +kernel
theorem dX8_keep_62 : decode cX8_keep 62 = .ok (.iconst 1, 1) := by decide +kernel
theorem dX8_keep_63 : decode cX8_keep 63 = .ok (.ireturn, 1) := by decide +kernel
set_option maxRecDepth 20000 in
theorem ggX8_goBack_X6_copyFrom : GoodIn wsX8_goBack wsX6_copyFrom := goodIn_r _ [16, 17, 18, 19, 20, 21, 22, 23, 24, 25, 26, 27, 28, 29, 30, 31, 32, 33, 34, 35, 36, 52, 53, 54, 55, 56, 57, 58, 59, 60, 61] (by decide +kernel) (by decide +kernel)
set_option maxRecDepth 20000 in
theorem gX8_goBack_X6_copyFrom : GoodIn wsX8_goBack (wsV RX8 236 RX6 yX6_copyFrom wsX6_copyFrom) := goodIn_app (goodIn_of _ (by decide +kernel)) ggX8_goBack_X6_copyFrom
theorem dX8_goBack_0 : decode cX8_goBack 0 = .ok (.iload_n 1, 1) := by decide +kernel
theorem dX8_goBack_1 : decode cX8_goBack 1 = .ok (.ifCond .lt 8, 3) := by decide +kernel
theorem dX8_goBack_4 : decode cX8_goBack 4 = .ok (.iload_n 1, 1) := by decide +kernel
theorem dX8_goBack_5 : decode cX8_goBack 5 = .ok (.iconst 2, 1) := by decide +kernel
theorem dX8_goBack_6 : decode cX8_goBack 6 = .ok (.if_icmp .lt 6, 3) := by decide +kernel
theorem dX8_goBack_9 : decode cX8_goBack 9 = .ok (.ldc 118, 2) := by decide +kernel
theorem dX8_goBack_11 : decode cX8_goBack 11 = .ok (.ireturn, 1) := by decide +kernel
theorem dX8_goBack_12 : decode cX8_goBack 12 = .ok (.aload_n 0, 1) := by decide +kernel
theorem dX8_goBack_13 : decode cX8_goBack 13 = .ok (.getfield 32, 3) := by decide +kernel
theorem dX8_goBack_16 : decode cX8_goBack 16 = .ok (.iload_n 1, 1) := by decide +kernel
theorem dX8_goBack_17 : decode cX8_goBack 17 = .ok (.aaload, 1) := by decide +kernel
theorem dX8_goBack_18 : decode cX8_goBack 18 = .ok (.getfield 230, 3) := by decide +kernel
theorem dX8_goBack_21 : decode cX8_goBack 21 = .ok (.ifCond .ne 6, 3) := by decide +kernel
theorem dX8_goBack_24 : decode cX8_goBack 24 = .ok (.ldc 221, 2) := by decide +kernel
theorem dX8_goBack_26 : decode cX8_goBack 26 = .ok (.ireturn, 1) := by decide +kernel
theorem dX8_goBack_27 : decode cX8_goBack 27 = .ok (.aload_n 0, 1) := by decide +kernel
theorem dX8_goBack_28 : decode cX8_goBack 28 = .ok (.getfield 10, 3) := by decide +kernel
theorem dX8_goBack_31 : decode cX8_goBack 31 = .ok (.aload_n 0, 1) := by decide +kernel
theorem dX8_goBack_32 : decode cX8_goBack 32 = .ok (.getfield 32, 3) := by decide +kernel
theorem dX8_goBack_35 : decode cX8_goBack 35 = .ok (.iload_n 1, 1) := by decide +kernel
theorem dX8_goBack_36 : decode cX8_goBack 36 = .ok (.aaload, 1) := by decide +kernel
theorem dX8_goBack_37 : decode cX8_goBack 37 = .ok (.getfield 234, 3) := by decide +kernel
theorem dX8_goBack_40 : decode cX8_goBack 40 = .ok (.invokevirtual 236, 3) := by decide +kernel
theorem dX8_goBack_43 : decode cX8_goBack 43 = .ok (.aload_n 0, 1) := by decide +kernel
theorem dX8_goBack_44 : decode cX8_goBack 44 = .ok (.getfield 61, 3) := by decide +kernel
theorem dX8_goBack_47 : decode cX8_goBack 47 = .ok (.aload_n 0, 1) := by decide +kernel
theorem dX8_goBack_48 : decode cX8_goBack 48 = .ok (.getfield 32, 3) := by decide +kernel
theorem dX8_goBack_51 : decode cX8_goBack 51 = .ok (.iload_n 1, 1) := by decide +kernel
theorem dX8_goBack_52 : decode cX8_goBack 52 = .ok (.aaload, 1) := by decide +kernel
theorem dX8_goBack_53 : decode cX8_goBack 53 = .ok (.getfield 238, 3) := by decide +kernel
theorem dX8_goBack_56 : decode cX8_goBack 56 = .ok (.putfield 110, 3) := by decide +kernel
theorem dX8_goBack_59 : decode cX8_goBack 59 = .ok (.aload_n 0, 1) := by decide +kernel
theorem dX8_goBack_60 : decode cX8_goBack 60 = .ok (.getfield 19, 3) := by decide +kernel
theorem dX8_goBack_63 : decode cX8_goBack 63 = .ok (.iconst 0, 1) := by decide +kernel
theorem dX8_goBack_64 : decode cX8_goBack 64 = .ok (.putfield 109, 3) := by decide +kernel
theorem dX8_goBack_67 : decode cX8_goBack 67 = .ok (.iconst 1, 1) := by decide +kernel
theorem dX8_goBack_68 : decode cX8_goBack 68 = .ok (.ireturn, 1) := by decide +kernel
theorem dX8_isRefinedKind_0 : decode cX8_isRefinedKind 0 = .ok (.iload_n 0, 1) := by decide +kernel
theorem dX8_isRefinedKind_1 : decode cX8_isRefinedKind 1 = .ok (.ifCond .lt 12, 3) := by decide +kernel
theorem dX8_isRefinedKind_4 : decode cX8_isRefinedKind 4 = .ok (.iload_n 0, 1) := by decide +kernel
theorem dX8_isRefinedKind_5 : decode cX8_isRefinedKind 5 = .ok (.iconst 4, 1) := by decide +kernel
theorem dX8_isRefinedKind_6 : decode cX8_isRefinedKind 6 = .ok (.if_icmp .gt 7, 3) := by decide +kernel
theorem dX8_isRefinedKind_9 : decode cX8_isRefinedKind 9 = .ok (.iconst 1, 1) := by decide +kernel
theorem dX8_isRefinedKind_10 : decode cX8_isRefinedKind 10 = .ok (.goto 4, 3) := by decide +kernel
theorem dX8_isRefinedKind_13 : decode cX8_isRefinedKind 13 = .ok (.iconst 0, 1) := by decide +kernel
theorem dX8_isRefinedKind_14 : decode cX8_isRefinedKind 14 = .ok (.ireturn, 1) := by decide +kernel
set_option maxRecDepth 20000 in
theorem ggX8_refusalOfSet_X6_hasItem : GoodIn wsX8_refusalOfSet wsX6_hasItem := goodIn_r _ [9, 10, 30, 31, 32, 33, 34, 35, 36, 37] (by decide +kernel) (by decide +kernel)
set_option maxRecDepth 20000 in
theorem gX8_refusalOfSet_X6_hasItem : GoodIn wsX8_refusalOfSet (wsV RX8 114 RX6 yX6_hasItem wsX6_hasItem) := goodIn_app (goodIn_of _ (by decide +kernel)) ggX8_refusalOfSet_X6_hasItem
set_option maxRecDepth 20000 in
theorem ggX8_refusalOfSet_X6_hasLetter : GoodIn wsX8_refusalOfSet wsX6_hasLetter := goodIn_r _ [14, 15, 30, 31, 32, 33, 34, 35, 36, 37] (by decide +kernel) (by decide +kernel)
set_option maxRecDepth 20000 in
theorem gX8_refusalOfSet_X6_hasLetter : GoodIn wsX8_refusalOfSet (wsV RX8 138 RX6 yX6_hasLetter wsX6_hasLetter) := goodIn_app (goodIn_of _ (by decide +kernel)) ggX8_refusalOfSet_X6_hasLetter
set_option maxRecDepth 20000 in
theorem ggX8_refusalOfSet_X5_hasPlace : GoodIn wsX8_refusalOfSet wsX5_hasPlace := goodIn_r _ [20, 21, 38, 39] (by decide +kernel) (by decide +kernel)
set_option maxRecDepth 20000 in
theorem gX8_refusalOfSet_X5_hasPlace : GoodIn wsX8_refusalOfSet (wsV RX8 145 RX5 yX5_hasPlace wsX5_hasPlace) := goodIn_app (goodIn_of _ (by decide +kernel)) ggX8_refusalOfSet_X5_hasPlace
theorem dX8_refusalOfSet_0 : decode cX8_refusalOfSet 0 = .ok (.iload_n 1, 1) := by decide +kernel
theorem dX8_refusalOfSet_1 : decode cX8_refusalOfSet 1 = .ok (.tableswitch 142 0 5 #[39, 39, 57, 74, 106, 108], 39) := by decide +kernel
theorem dX8_refusalOfSet_40 : decode cX8_refusalOfSet 40 = .ok (.aload_n 0, 1) := by decide +kernel
theorem dX8_refusalOfSet_41 : decode cX8_refusalOfSet 41 = .ok (.getfield 10, 3) := by decide +kernel
theorem dX8_refusalOfSet_44 : decode cX8_refusalOfSet 44 = .ok (.iload_n 2, 1) := by decide +kernel
theorem dX8_refusalOfSet_45 : decode cX8_refusalOfSet 45 = .ok (.invokevirtual 114, 3) := by decide +kernel
theorem dX8_refusalOfSet_48 : decode cX8_refusalOfSet 48 = .ok (.ifCond .eq 7, 3) := by decide +kernel
theorem dX8_refusalOfSet_51 : decode cX8_refusalOfSet 51 = .ok (.iconst (-1), 1) := by decide +kernel
theorem dX8_refusalOfSet_52 : decode cX8_refusalOfSet 52 = .ok (.goto 5, 3) := by decide +kernel
theorem dX8_refusalOfSet_55 : decode cX8_refusalOfSet 55 = .ok (.ldc 118, 2) := by decide +kernel
theorem dX8_refusalOfSet_57 : decode cX8_refusalOfSet 57 = .ok (.ireturn, 1) := by decide +kernel
theorem dX8_refusalOfSet_58 : decode cX8_refusalOfSet 58 = .ok (.iload_n 2, 1) := by decide +kernel
theorem dX8_refusalOfSet_59 : decode cX8_refusalOfSet 59 = .ok (.ifCond .lt 13, 3) := by decide +kernel
theorem dX8_refusalOfSet_62 : decode cX8_refusalOfSet 62 = .ok (.iload_n 2, 1) := by decide +kernel
theorem dX8_refusalOfSet_63 : decode cX8_refusalOfSet 63 = .ok (.bipush 8, 2) := by decide +kernel
theorem dX8_refusalOfSet_65 : decode cX8_refusalOfSet 65 = .ok (.if_icmp .ge 7, 3) := by decide +kernel
theorem dX8_refusalOfSet_68 : decode cX8_refusalOfSet 68 = .ok (.iconst (-1), 1) := by decide +kernel
theorem dX8_refusalOfSet_69 : decode cX8_refusalOfSet 69 = .ok (.goto 5, 3) := by decide +kernel
theorem dX8_refusalOfSet_72 : decode cX8_refusalOfSet 72 = .ok (.ldc 118, 2) := by decide +kernel
theorem dX8_refusalOfSet_74 : decode cX8_refusalOfSet 74 = .ok (.ireturn, 1) := by decide +kernel
theorem dX8_refusalOfSet_75 : decode cX8_refusalOfSet 75 = .ok (.aload_n 0, 1) := by decide +kernel
theorem dX8_refusalOfSet_76 : decode cX8_refusalOfSet 76 = .ok (.getfield 10, 3) := by decide +kernel
theorem dX8_refusalOfSet_79 : decode cX8_refusalOfSet 79 = .ok (.iload_n 2, 1) := by decide +kernel
theorem dX8_refusalOfSet_80 : decode cX8_refusalOfSet 80 = .ok (.invokevirtual 138, 3) := by decide +kernel
theorem dX8_refusalOfSet_83 : decode cX8_refusalOfSet 83 = .ok (.ifCond .eq 21, 3) := by decide +kernel
theorem dX8_refusalOfSet_86 : decode cX8_refusalOfSet 86 = .ok (.aload_n 0, 1) := by decide +kernel
theorem dX8_refusalOfSet_87 : decode cX8_refusalOfSet 87 = .ok (.getfield 10, 3) := by decide +kernel
theorem dX8_refusalOfSet_90 : decode cX8_refusalOfSet 90 = .ok (.getfield 69, 3) := by decide +kernel
theorem dX8_refusalOfSet_93 : decode cX8_refusalOfSet 93 = .ok (.iload_n 3, 1) := by decide +kernel
theorem dX8_refusalOfSet_94 : decode cX8_refusalOfSet 94 = .ok (.invokevirtual 145, 3) := by decide +kernel
theorem dX8_refusalOfSet_97 : decode cX8_refusalOfSet 97 = .ok (.ifCond .eq 7, 3) := by decide +kernel
theorem dX8_refusalOfSet_100 : decode cX8_refusalOfSet 100 = .ok (.iconst (-1), 1) := by decide +kernel
theorem dX8_refusalOfSet_101 : decode cX8_refusalOfSet 101 = .ok (.goto 5, 3) := by decide +kernel
theorem dX8_refusalOfSet_104 : decode cX8_refusalOfSet 104 = .ok (.ldc 118, 2) := by decide +kernel
theorem dX8_refusalOfSet_106 : decode cX8_refusalOfSet 106 = .ok (.ireturn, 1) := by decide +kernel
theorem dX8_refusalOfSet_107 : decode cX8_refusalOfSet 107 = .ok (.iconst (-1), 1) := by decide +kernel
theorem dX8_refusalOfSet_108 : decode cX8_refusalOfSet 108 = .ok (.ireturn, 1) := by decide +kernel
theorem dX8_refusalOfSet_109 : decode cX8_refusalOfSet 109 = .ok (.aload_n 0, 1) := by decide +kernel
theorem dX8_refusalOfSet_110 : decode cX8_refusalOfSet 110 = .ok (.getfield 10, 3) := by decide +kernel
theorem dX8_refusalOfSet_113 : decode cX8_refusalOfSet 113 = .ok (.getfield 69, 3) := by decide +kernel
theorem dX8_refusalOfSet_116 : decode cX8_refusalOfSet 116 = .ok (.iload_n 2, 1) := by decide +kernel
theorem dX8_refusalOfSet_117 : decode cX8_refusalOfSet 117 = .ok (.invokevirtual 145, 3) := by decide +kernel
theorem dX8_refusalOfSet_120 : decode cX8_refusalOfSet 120 = .ok (.ifCond .ne 6, 3) := by decide +kernel
theorem dX8_refusalOfSet_123 : decode cX8_refusalOfSet 123 = .ok (.ldc 118, 2) := by decide +kernel
theorem dX8_refusalOfSet_125 : decode cX8_refusalOfSet 125 = .ok (.ireturn, 1) := by decide +kernel
theorem dX8_refusalOfSet_126 : decode cX8_refusalOfSet 126 = .ok (.iload_n 3, 1) := by decide +kernel
theorem dX8_refusalOfSet_127 : decode cX8_refusalOfSet 127 = .ok (.ifCond .lt 13, 3) := by decide +kernel
theorem dX8_refusalOfSet_130 : decode cX8_refusalOfSet 130 = .ok (.iload_n 3, 1) := by decide +kernel
theorem dX8_refusalOfSet_131 : decode cX8_refusalOfSet 131 = .ok (.bipush 12, 2) := by decide +kernel
theorem dX8_refusalOfSet_133 : decode cX8_refusalOfSet 133 = .ok (.if_icmp .gt 7, 3) := by decide +kernel
theorem dX8_refusalOfSet_136 : decode cX8_refusalOfSet 136 = .ok (.iconst (-1), 1) := by decide +kernel
theorem dX8_refusalOfSet_137 : decode cX8_refusalOfSet 137 = .ok (.goto 5, 3) := by decide +kernel
theorem dX8_refusalOfSet_140 : decode cX8_refusalOfSet 140 = .ok (.ldc 113, 2) := by decide +kernel
theorem dX8_refusalOfSet_142 : decode cX8_refusalOfSet 142 = .ok (.ireturn, 1) := by decide +kernel
theorem dX8_refusalOfSet_143 : decode cX8_refusalOfSet 143 = .ok (.ldc 113, 2) := by decide +kernel
theorem dX8_refusalOfSet_145 : decode cX8_refusalOfSet 145 = .ok (.ireturn, 1) := by decide +kernel
set_option maxRecDepth 20000 in
theorem ggX8_splitAndCount_X2_remember : GoodIn wsX8_splitAndCount wsX2_remember := goodIn_r _ [10, 11, 12, 13, 14, 15, 16, 17, 18, 19, 20, 21, 22, 23, 24, 25, 26, 27, 28, 29, 30, 31, 32, 33, 34, 35, 36, 37, 38, 39, 40, 41, 42, 76, 77, 78, 66, 67, 68, 69, 70, 71, 72, 73, 74, 75] (by decide +kernel) (by decide +kernel)
set_option maxRecDepth 20000 in
theorem gX8_splitAndCount_X2_remember : GoodIn wsX8_splitAndCount (wsV RX8 166 RX2 yX2_remember wsX2_remember) := goodIn_app (goodIn_of _ (by decide +kernel)) ggX8_splitAndCount_X2_remember
set_option maxRecDepth 20000 in
theorem ggX8_splitAndCount_X5_cutBy : GoodIn wsX8_splitAndCount wsX5_cutBy := goodIn_r _ [46, 42, 40, 47, 48, 49, 38, 50, 74, 75] (by decide +kernel) (by decide +kernel)
set_option maxRecDepth 20000 in
theorem gX8_splitAndCount_X5_cutBy : GoodIn wsX8_splitAndCount (wsV RX8 241 RX5 yX5_cutBy wsX5_cutBy) := goodIn_app (goodIn_of _ (by decide +kernel)) ggX8_splitAndCount_X5_cutBy
set_option maxRecDepth 20000 in
theorem ggX8_splitAndCount_J6_bitCount_0f7a4 : GoodIn wsX8_splitAndCount wsJ6_bitCount_0f7a4 := goodIn_r _ [54, 55, 56, 57] (by decide +kernel) (by decide +kernel)
set_option maxRecDepth 20000 in
theorem gX8_splitAndCount_J6_bitCount_0f7a4 : GoodIn wsX8_splitAndCount (va_wsS RX8 133 yJ6_bitCount_0f7a4 wsJ6_bitCount_0f7a4) := goodIn_app (goodIn_of _ (by decide +kernel)) ggX8_splitAndCount_J6_bitCount_0f7a4
theorem dX8_splitAndCount_0 : decode cX8_splitAndCount 0 = .ok (.aload_n 0, 1) := by decide +kernel
theorem dX8_splitAndCount_1 : decode cX8_splitAndCount 1 = .ok (.getfield 19, 3) := by decide +kernel
theorem dX8_splitAndCount_4 : decode cX8_splitAndCount 4 = .ok (.aload_n 0, 1) := by decide +kernel
theorem dX8_splitAndCount_5 : decode cX8_splitAndCount 5 = .ok (.getfield 10, 3) := by decide +kernel
theorem dX8_splitAndCount_8 : decode cX8_splitAndCount 8 = .ok (.invokevirtual 166, 3) := by decide +kernel
theorem dX8_splitAndCount_11 : decode cX8_splitAndCount 11 = .ok (.aload_n 0, 1) := by decide +kernel
theorem dX8_splitAndCount_12 : decode cX8_splitAndCount 12 = .ok (.getfield 10, 3) := by decide +kernel
theorem dX8_splitAndCount_15 : decode cX8_splitAndCount 15 = .ok (.getfield 69, 3) := by decide +kernel
theorem dX8_splitAndCount_18 : decode cX8_splitAndCount 18 = .ok (.iload_n 1, 1) := by decide +kernel
theorem dX8_splitAndCount_19 : decode cX8_splitAndCount 19 = .ok (.invokevirtual 241, 3) := by decide +kernel
theorem dX8_splitAndCount_22 : decode cX8_splitAndCount 22 = .ok (.aload_n 0, 1) := by decide +kernel
theorem dX8_splitAndCount_23 : decode cX8_splitAndCount 23 = .ok (.getfield 10, 3) := by decide +kernel
theorem dX8_splitAndCount_26 : decode cX8_splitAndCount 26 = .ok (.dup, 1) := by decide +kernel
theorem dX8_splitAndCount_27 : decode cX8_splitAndCount 27 = .ok (.getfield 75, 3) := by decide +kernel
theorem dX8_splitAndCount_30 : decode cX8_splitAndCount 30 = .ok (.iload_n 1, 1) := by decide +kernel
theorem dX8_splitAndCount_31 : decode cX8_splitAndCount 31 = .ok (.invokestatic 133, 3) := by decide +kernel
theorem dX8_splitAndCount_34 : decode cX8_splitAndCount 34 = .ok (.iadd, 1) := by decide +kernel
theorem dX8_splitAndCount_35 : decode cX8_splitAndCount 35 = .ok (.putfield 75, 3) := by decide +kernel
theorem dX8_splitAndCount_38 : decode cX8_splitAndCount 38 = .ok (.aload_n 0, 1) := by decide +kernel
theorem dX8_splitAndCount_39 : decode cX8_splitAndCount 39 = .ok (.getfield 10, 3) := by decide +kernel
theorem dX8_splitAndCount_42 : decode cX8_splitAndCount 42 = .ok (.getfield 69, 3) := by decide +kernel
theorem dX8_splitAndCount_45 : decode cX8_splitAndCount 45 = .ok (.getfield 72, 3) := by decide +kernel
theorem dX8_splitAndCount_48 : decode cX8_splitAndCount 48 = .ok (.ireturn, 1) := by decide +kernel
set_option maxRecDepth 20000 in
theorem ggX8_refineAside_X6_all : GoodIn wsX8_refineAside wsX6_all := goodIn_r _ [8, 9, 130, 131, 132, 133, 134, 135, 136, 137] (by decide +kernel) (by decide +kernel)
set_option maxRecDepth 20000 in
theorem gX8_refineAside_X6_all : GoodIn wsX8_refineAside (wsV RX8 191 RX6 yX6_all wsX6_all) := goodIn_app (goodIn_of _ (by decide +kernel)) ggX8_refineAside_X6_all
set_option maxRecDepth 20000 in
theorem ggX8_refineAside_X5_gather : GoodIn wsX8_refineAside wsX5_gather := goodIn_r _ [14, 15, 16, 138, 139] (by decide +kernel) (by decide +kernel)
set_option maxRecDepth 20000 in
theorem gX8_refineAside_X5_gather : GoodIn wsX8_refineAside (wsV RX8 194 RX5 yX5_gather wsX5_gather) := goodIn_app (goodIn_of _ (by decide +kernel)) ggX8_refineAside_X5_gather
set_option maxRecDepth 20000 in
theorem ggX8_refineAside_X4_refineRow : GoodIn wsX8_refineAside wsX4_refineRow := goodIn_r _ [21, 22, 23, 24, 25, 13, 26, 16, 15, 27, 28, 29, 30, 31, 32, 33, 20, 34, 35, 36, 37, 38, 39, 40, 41, 42, 43, 44, 45, 46, 47, 48, 49, 50, 51, 52, 53, 54, 55, 56, 57, 58, 59, 60, 7, 61, 9, 62, 63, 64, 65, 66, 67, 68, 69, 70, 71, 72, 73, 74, 75, 76, 77, 78, 79, 80, 81, 82, 83, 84, 85, 86, 87, 88, 89, 90, 91, 92, 93, 94, 95, 96, 97, 98, 99, 100, 101, 102, 103, 104, 105, 106, 107, 108, 109, 110, 111, 112, 113, 114, 115, 116, 117, 118, 119, 120, 121, 130, 131, 132, 133, 134, 135, 136, 137, 138, 139, 140] (by decide +kernel) (by decide +kernel)
set_option maxRecDepth 20000 in
theorem gX8_refineAside_X4_refineRow : GoodIn wsX8_refineAside (wsV RX8 200 RX4 yX4_refineRow wsX4_refineRow) := goodIn_app (goodIn_of _ (by decide +kernel)) ggX8_refineAside_X4_refineRow
theorem dX8_refineAside_0 : decode cX8_refineAside 0 = .ok (.aload_n 0, 1) := by decide +kernel
theorem dX8_refineAside_1 : decode cX8_refineAside 1 = .ok (.getfield 54, 3) := by decide +kernel
theorem dX8_refineAside_4 : decode cX8_refineAside 4 = .ok (.aload_n 0, 1) := by decide +kernel
theorem dX8_refineAside_5 : decode cX8_refineAside 5 = .ok (.getfield 10, 3) := by decide +kernel
theorem dX8_refineAside_8 : decode cX8_refineAside 8 = .ok (.invokevirtual 191, 3) := by decide +kernel
theorem dX8_refineAside_11 : decode cX8_refineAside 11 = .ok (.invokevirtual 194, 3) := by decide +kernel
theorem dX8_refineAside_14 : decode cX8_refineAside 14 = .ok (.aload_n 0, 1) := by decide +kernel
theorem dX8_refineAside_15 : decode cX8_refineAside 15 = .ok (.getfield 40, 3) := by decide +kernel
theorem dX8_refineAside_18 : decode cX8_refineAside 18 = .ok (.aload_n 0, 1) := by decide +kernel
theorem dX8_refineAside_19 : decode cX8_refineAside 19 = .ok (.getfield 10, 3) := by decide +kernel
theorem dX8_refineAside_22 : decode cX8_refineAside 22 = .ok (.aload_n 0, 1) := by decide +kernel
theorem dX8_refineAside_23 : decode cX8_refineAside 23 = .ok (.getfield 54, 3) := by decide +kernel
theorem dX8_refineAside_26 : decode cX8_refineAside 26 = .ok (.iload_n 1, 1) := by decide +kernel
theorem dX8_refineAside_27 : decode cX8_refineAside 27 = .ok (.invokevirtual 200, 3) := by decide +kernel
theorem dX8_refineAside_30 : decode cX8_refineAside 30 = .ok (.return_, 1) := by decide +kernel
set_option maxRecDepth 20000 in
theorem ggX9_init_X9_lays : GoodIn wsX9_init wsX9_lays := goodIn_r _ [24, 5, 25, 26, 27, 28, 29, 30, 31, 32, 33, 34, 35, 36, 37, 38, 39, 40, 41] (by decide +kernel) (by decide +kernel)
set_option maxRecDepth 20000 in
theorem gX9_init_X9_lays : GoodIn wsX9_init (wsV RX9 53 RX9 yX9_lays wsX9_lays) := goodIn_app (goodIn_of _ (by decide +kernel)) ggX9_init_X9_lays
theorem dX9_init_0 : decode cX9_init 0 = .ok (.aload_n 0, 1) := by decide +kernel
theorem dX9_init_1 : decode cX9_init 1 = .ok (.invokespecial 1, 3) := by decide +kernel
theorem dX9_init_4 : decode cX9_init 4 = .ok (.aload_n 0, 1) := by decide +kernel
theorem dX9_init_5 : decode cX9_init 5 = .ok (.bipush 76, 2) := by decide +kernel
theorem dX9_init_7 : decode cX9_init 7 = .ok (.newarray .int, 2) := by decide +kernel
theorem dX9_init_9 : decode cX9_init 9 = .ok (.putfield 7, 3) := by decide +kernel
theorem dX9_init_12 : decode cX9_init 12 = .ok (.aload_n 0, 1) := by decide +kernel
theorem dX9_init_13 : decode cX9_init 13 = .ok (.sipush 1216, 3) := by decide +kernel
theorem dX9_init_16 : decode cX9_init 16 = .ok (.newarray .int, 2) := by decide +kernel
theorem dX9_init_18 : decode cX9_init 18 = .ok (.putfield 13, 3) := by decide +kernel
theorem dX9_init_21 : decode cX9_init 21 = .ok (.aload_n 0, 1) := by decide +kernel
theorem dX9_init_22 : decode cX9_init 22 = .ok (.sipush 154, 3) := by decide +kernel
theorem dX9_init_25 : decode cX9_init 25 = .ok (.newarray .int, 2) := by decide +kernel
theorem dX9_init_27 : decode cX9_init 27 = .ok (.putfield 16, 3) := by decide +kernel
theorem dX9_init_30 : decode cX9_init 30 = .ok (.aload_n 0, 1) := by decide +kernel
theorem dX9_init_31 : decode cX9_init 31 = .ok (.iconst 2, 1) := by decide +kernel
theorem dX9_init_32 : decode cX9_init 32 = .ok (.newarray .boolean, 2) := by decide +kernel
theorem dX9_init_34 : decode cX9_init 34 = .ok (.putfield 19, 3) := by decide +kernel
theorem dX9_init_37 : decode cX9_init 37 = .ok (.aload_n 0, 1) := by decide +kernel
theorem dX9_init_38 : decode cX9_init 38 = .ok (.bipush 20, 2) := by decide +kernel
theorem dX9_init_40 : decode cX9_init 40 = .ok (.newarray .int, 2) := by decide +kernel
theorem dX9_init_42 : decode cX9_init 42 = .ok (.putfield 23, 3) := by decide +kernel
theorem dX9_init_45 : decode cX9_init 45 = .ok (.aload_n 0, 1) := by decide +kernel
theorem dX9_init_46 : decode cX9_init 46 = .ok (.bipush 20, 2) := by decide +kernel
theorem dX9_init_48 : decode cX9_init 48 = .ok (.newarray .int, 2) := by decide +kernel
theorem dX9_init_50 : decode cX9_init 50 = .ok (.putfield 26, 3) := by decide +kernel
theorem dX9_init_53 : decode cX9_init 53 = .ok (.aload_n 0, 1) := by decide +kernel
theorem dX9_init_54 : decode cX9_init 54 = .ok (.bipush 12, 2) := by decide +kernel
theorem dX9_init_56 : decode cX9_init 56 = .ok (.newarray .int, 2) := by decide +kernel
theorem dX9_init_58 : decode cX9_init 58 = .ok (.putfield 29, 3) := by decide +kernel
theorem dX9_init_61 : decode cX9_init 61 = .ok (.aload_n 0, 1) := by decide +kernel
theorem dX9_init_62 : decode cX9_init 62 = .ok (.sipush 144, 3) := by decide +kernel
theorem dX9_init_65 : decode cX9_init 65 = .ok (.newarray .boolean, 2) := by decide +kernel
theorem dX9_init_67 : decode cX9_init 67 = .ok (.putfield 32, 3) := by decide +kernel
theorem dX9_init_70 : decode cX9_init 70 = .ok (.aload_n 0, 1) := by decide +kernel
theorem dX9_init_71 : decode cX9_init 71 = .ok (.sipush 144, 3) := by decide +kernel
theorem dX9_init_74 : decode cX9_init 74 = .ok (.newarray .boolean, 2) := by decide +kernel
theorem dX9_init_76 : decode cX9_init 76 = .ok (.putfield 35, 3) := by decide +kernel
theorem dX9_init_79 : decode cX9_init 79 = .ok (.aload_n 0, 1) := by decide +kernel
theorem dX9_init_80 : decode cX9_init 80 = .ok (.bipush 12, 2) := by decide +kernel
theorem dX9_init_82 : decode cX9_init 82 = .ok (.newarray .int, 2) := by decide +kernel
theorem dX9_init_84 : decode cX9_init 84 = .ok (.putfield 38, 3) := by decide +kernel
theorem dX9_init_87 : decode cX9_init 87 = .ok (.aload_n 0, 1) := by decide +kernel
theorem dX9_init_88 : decode cX9_init 88 = .ok (.sipush 144, 3) := by decide +kernel
theorem dX9_init_91 : decode cX9_init 91 = .ok (.newarray .int, 2) := by decide +kernel
theorem dX9_init_93 : decode cX9_init 93 = .ok (.putfield 41, 3) := by decide +kernel
theorem dX9_init_96 : decode cX9_init 96 = .ok (.aload_n 0, 1) := by decide +kernel
theorem dX9_init_97 : decode cX9_init 97 = .ok (.sipush 144, 3) := by decide +kernel
theorem dX9_init_100 : decode cX9_init 100 = .ok (.newarray .int, 2) := by decide +kernel
theorem dX9_init_102 : decode cX9_init 102 = .ok (.putfield 44, 3) := by decide +kernel
theorem dX9_init_105 : decode cX9_init 105 = .ok (.aload_n 0, 1) := by decide +kernel
theorem dX9_init_106 : decode cX9_init 106 = .ok (.sipush 144, 3) := by decide +kernel
theorem dX9_init_109 : decode cX9_init 109 = .ok (.newarray .boolean, 2) := by decide +kernel
theorem dX9_init_111 : decode cX9_init 111 = .ok (.putfield 47, 3) := by decide +kernel
theorem dX9_init_114 : decode cX9_init 114 = .ok (.aload_n 0, 1) := by decide +kernel
theorem dX9_init_115 : decode cX9_init 115 = .ok (.bipush 12, 2) := by decide +kernel
theorem dX9_init_117 : decode cX9_init 117 = .ok (.newarray .int, 2) := by decide +kernel
theorem dX9_init_119 : decode cX9_init 119 = .ok (.putfield 50, 3) := by decide +kernel
theorem dX9_init_122 : decode cX9_init 122 = .ok (.aload_n 0, 1) := by decide +kernel
theorem dX9_init_123 : decode cX9_init 123 = .ok (.iconst 4, 1) := by decide +kernel
theorem dX9_init_124 : decode cX9_init 124 = .ok (.invokevirtual 53, 3) := by decide +kernel
theorem dX9_init_127 : decode cX9_init 127 = .ok (.return_, 1) := by decide +kernel
theorem dX9_in_0 : decode cX9_in 0 = .ok (.iload_n 0, 1) := by decide +kernel
theorem dX9_in_1 : decode cX9_in 1 = .ok (.iload_n 1, 1) := by decide +kernel
theorem dX9_in_2 : decode cX9_in 2 = .ok (.if_icmp .lt 12, 3) := by decide +kernel
theorem dX9_in_5 : decode cX9_in 5 = .ok (.iload_n 0, 1) := by decide +kernel
theorem dX9_in_6 : decode cX9_in 6 = .ok (.iload_n 2, 1) := by decide +kernel
theorem dX9_in_7 : decode cX9_in 7 = .ok (.if_icmp .gt 7, 3) := by decide +kernel
theorem dX9_in_10 : decode cX9_in 10 = .ok (.iconst 1, 1) := by decide +kernel
theorem dX9_in_11 : decode cX9_in 11 = .ok (.goto 4, 3) := by decide +kernel
theorem dX9_in_14 : decode cX9_in 14 = .ok (.iconst 0, 1) := by decide +kernel
theorem dX9_in_15 : decode cX9_in 15 = .ok (.ireturn, 1) := by decide +kernel
theorem dX9_has_0 : decode cX9_has 0 = .ok (.iload_n 0, 1) := by decide +kernel
theorem dX9_has_1 : decode cX9_has 1 = .ok (.iload_n 1, 1) := by decide +kernel
theorem dX9_has_2 : decode cX9_has 2 = .ok (.ishr, 1) := by decide +kernel
theorem dX9_has_3 : decode cX9_has 3 = .ok (.iconst 1, 1) := by decide +kernel
theorem dX9_has_4 : decode cX9_has 4 = .ok (.iand, 1) := by decide +kernel
theorem dX9_has_5 : decode cX9_has 5 = .ok (.iconst 1, 1) := by decide +kernel
theorem dX9_has_6 : decode cX9_has 6 = .ok (.if_icmp .ne 7, 3) := by decide +kernel
theorem dX9_has_9 : decode cX9_has 9 = .ok (.iconst 1, 1) := by decide +kernel
theorem dX9_has_10 : decode cX9_has 10 = .ok (.goto 4, 3) := by decide +kernel
theorem dX9_has_13 : decode cX9_has 13 = .ok (.iconst 0, 1) := by decide +kernel
theorem dX9_has_14 : decode cX9_has 14 = .ok (.ireturn, 1) := by decide +kernel
theorem dX9_sizeOf_0 : decode cX9_sizeOf 0 = .ok (.iconst 0, 1) := by decide +kernel
theorem dX9_sizeOf_1 : decode cX9_sizeOf 1 = .ok (.istore_n 1, 1) := by decide +kernel
theorem dX9_sizeOf_2 : decode cX9_sizeOf 2 = .ok (.iconst 0, 1) := by decide +kernel
theorem dX9_sizeOf_3 : decode cX9_sizeOf 3 = .ok (.istore_n 2, 1) := by decide +kernel
theorem dX9_sizeOf_4 : decode cX9_sizeOf 4 = .ok (.iload_n 2, 1) := by decide +kernel
theorem dX9_sizeOf_5 : decode cX9_sizeOf 5 = .ok (.bipush 12, 2) := by decide +kernel
theorem dX9_sizeOf_7 : decode cX9_sizeOf 7 = .ok (.if_icmp .ge 17, 3) := by decide +kernel
theorem dX9_sizeOf_10 : decode cX9_sizeOf 10 = .ok (.iload_n 1, 1) := by decide +kernel
theorem dX9_sizeOf_11 : decode cX9_sizeOf 11 = .ok (.iload_n 0, 1) := by decide +kernel
theorem dX9_sizeOf_12 : decode cX9_sizeOf 12 = .ok (.iload_n 2, 1) := by decide +kernel
end
section
theorem dX9_sizeOf_13 : decode cX9_sizeOf 13 = .ok (.ishr, 1) := by decide +kernel
theorem dX9_sizeOf_14 : decode cX9_sizeOf 14 = .ok (.iconst 1, 1) := by decide +kernel
theorem dX9_sizeOf_15 : decode cX9_sizeOf 15 = .ok (.iand, 1) := by decide +kernel
theorem dX9_sizeOf_16 : decode cX9_sizeOf 16 = .ok (.iadd, 1) := by decide +kernel
theorem dX9_sizeOf_17 : decode cX9_sizeOf 17 = .ok (.istore_n 1, 1) := by decide +kernel
theorem dX9_sizeOf_18 : decode cX9_sizeOf 18 = .ok (.iinc 2 1, 3) := by decide +kernel
theorem dX9_sizeOf_21 : decode cX9_sizeOf 21 = .ok (.goto (-17), 3) := by decide +kernel
theorem dX9_sizeOf_24 : decode cX9_sizeOf 24 = .ok (.iload_n 1, 1) := by decide +kernel
theorem dX9_sizeOf_25 : decode cX9_sizeOf 25 = .ok (.ireturn, 1) := by decide +kernel
theorem dX9_bring_0 : decode cX9_bring 0 = .ok (.iconst 0, 1) := by decide +kernel
theorem dX9_bring_1 : decode cX9_bring 1 = .ok (.istore 5, 2) := by decide +kernel
theorem dX9_bring_3 : decode cX9_bring 3 = .ok (.iload 5, 2) := by decide +kernel
theorem dX9_bring_5 : decode cX9_bring 5 = .ok (.iload 4, 2) := by decide +kernel
theorem dX9_bring_7 : decode cX9_bring 7 = .ok (.if_icmp .ge 21, 3) := by decide +kernel
theorem dX9_bring_10 : decode cX9_bring 10 = .ok (.aload_n 2, 1) := by decide +kernel
theorem dX9_bring_11 : decode cX9_bring 11 = .ok (.iload_n 3, 1) := by decide +kernel
theorem dX9_bring_12 : decode cX9_bring 12 = .ok (.iload 5, 2) := by decide +kernel
theorem dX9_bring_14 : decode cX9_bring 14 = .ok (.iadd, 1) := by decide +kernel
theorem dX9_bring_15 : decode cX9_bring 15 = .ok (.aload_n 0, 1) := by decide +kernel
theorem dX9_bring_16 : decode cX9_bring 16 = .ok (.iload_n 1, 1) := by decide +kernel
theorem dX9_bring_17 : decode cX9_bring 17 = .ok (.iload 5, 2) := by decide +kernel
theorem dX9_bring_19 : decode cX9_bring 19 = .ok (.iadd, 1) := by decide +kernel
theorem dX9_bring_20 : decode cX9_bring 20 = .ok (.iaload, 1) := by decide +kernel
theorem dX9_bring_21 : decode cX9_bring 21 = .ok (.iastore, 1) := by decide +kernel
theorem dX9_bring_22 : decode cX9_bring 22 = .ok (.iinc 5 1, 3) := by decide +kernel
theorem dX9_bring_25 : decode cX9_bring 25 = .ok (.goto (-22), 3) := by decide +kernel
theorem dX9_bring_28 : decode cX9_bring 28 = .ok (.return_, 1) := by decide +kernel
theorem dX9_lays_0 : decode cX9_lays 0 = .ok (.iconst 0, 1) := by decide +kernel
theorem dX9_lays_1 : decode cX9_lays 1 = .ok (.istore_n 2, 1) := by decide +kernel
theorem dX9_lays_2 : decode cX9_lays 2 = .ok (.iload_n 2, 1) := by decide +kernel
theorem dX9_lays_3 : decode cX9_lays 3 = .ok (.bipush 76, 2) := by decide +kernel
theorem dX9_lays_5 : decode cX9_lays 5 = .ok (.if_icmp .ge 16, 3) := by decide +kernel
theorem dX9_lays_8 : decode cX9_lays 8 = .ok (.aload_n 0, 1) := by decide +kernel
theorem dX9_lays_9 : decode cX9_lays 9 = .ok (.getfield 7, 3) := by decide +kernel
theorem dX9_lays_12 : decode cX9_lays 12 = .ok (.iload_n 2, 1) := by decide +kernel
theorem dX9_lays_13 : decode cX9_lays 13 = .ok (.iconst 0, 1) := by decide +kernel
theorem dX9_lays_14 : decode cX9_lays 14 = .ok (.iastore, 1) := by decide +kernel
theorem dX9_lays_15 : decode cX9_lays 15 = .ok (.iinc 2 1, 3) := by decide +kernel
theorem dX9_lays_18 : decode cX9_lays 18 = .ok (.goto (-16), 3) := by decide +kernel
theorem dX9_lays_21 : decode cX9_lays 21 = .ok (.aload_n 0, 1) := by decide +kernel
theorem dX9_lays_22 : decode cX9_lays 22 = .ok (.getfield 7, 3) := by decide +kernel
theorem dX9_lays_25 : decode cX9_lays 25 = .ok (.iconst 0, 1) := by decide +kernel
theorem dX9_lays_26 : decode cX9_lays 26 = .ok (.iload_n 1, 1) := by decide +kernel
theorem dX9_lays_27 : decode cX9_lays 27 = .ok (.iastore, 1) := by decide +kernel
theorem dX9_lays_28 : decode cX9_lays 28 = .ok (.aload_n 0, 1) := by decide +kernel
theorem dX9_lays_29 : decode cX9_lays 29 = .ok (.getfield 7, 3) := by decide +kernel
theorem dX9_lays_32 : decode cX9_lays 32 = .ok (.iconst 1, 1) := by decide +kernel
theorem dX9_lays_33 : decode cX9_lays 33 = .ok (.iconst 1, 1) := by decide +kernel
theorem dX9_lays_34 : decode cX9_lays 34 = .ok (.iastore, 1) := by decide +kernel
theorem dX9_lays_35 : decode cX9_lays 35 = .ok (.iconst 0, 1) := by decide +kernel
theorem dX9_lays_36 : decode cX9_lays 36 = .ok (.istore_n 2, 1) := by decide +kernel
theorem dX9_lays_37 : decode cX9_lays 37 = .ok (.iload_n 2, 1) := by decide +kernel
theorem dX9_lays_38 : decode cX9_lays 38 = .ok (.bipush 12, 2) := by decide +kernel
theorem dX9_lays_40 : decode cX9_lays 40 = .ok (.if_icmp .ge 36, 3) := by decide +kernel
theorem dX9_lays_43 : decode cX9_lays 43 = .ok (.iconst 0, 1) := by decide +kernel
theorem dX9_lays_44 : decode cX9_lays 44 = .ok (.istore_n 3, 1) := by decide +kernel
theorem dX9_lays_45 : decode cX9_lays 45 = .ok (.iload_n 3, 1) := by decide +kernel
theorem dX9_lays_46 : decode cX9_lays 46 = .ok (.iconst 3, 1) := by decide +kernel
theorem dX9_lays_47 : decode cX9_lays 47 = .ok (.if_icmp .ge 23, 3) := by decide +kernel
theorem dX9_lays_50 : decode cX9_lays 50 = .ok (.aload_n 0, 1) := by decide +kernel
theorem dX9_lays_51 : decode cX9_lays 51 = .ok (.getfield 7, 3) := by decide +kernel
theorem dX9_lays_54 : decode cX9_lays 54 = .ok (.bipush 28, 2) := by decide +kernel
theorem dX9_lays_56 : decode cX9_lays 56 = .ok (.iconst 3, 1) := by decide +kernel
theorem dX9_lays_57 : decode cX9_lays 57 = .ok (.iload_n 2, 1) := by decide +kernel
theorem dX9_lays_58 : decode cX9_lays 58 = .ok (.imul, 1) := by decide +kernel
theorem dX9_lays_59 : decode cX9_lays 59 = .ok (.iadd, 1) := by decide +kernel
theorem dX9_lays_60 : decode cX9_lays 60 = .ok (.iload_n 3, 1) := by decide +kernel
theorem dX9_lays_61 : decode cX9_lays 61 = .ok (.iadd, 1) := by decide +kernel
theorem dX9_lays_62 : decode cX9_lays 62 = .ok (.iload_n 2, 1) := by decide +kernel
theorem dX9_lays_63 : decode cX9_lays 63 = .ok (.iastore, 1) := by decide +kernel
theorem dX9_lays_64 : decode cX9_lays 64 = .ok (.iinc 3 1, 3) := by decide +kernel
theorem dX9_lays_67 : decode cX9_lays 67 = .ok (.goto (-22), 3) := by decide +kernel
theorem dX9_lays_70 : decode cX9_lays 70 = .ok (.iinc 2 1, 3) := by decide +kernel
theorem dX9_lays_73 : decode cX9_lays 73 = .ok (.goto (-36), 3) := by decide +kernel
theorem dX9_lays_76 : decode cX9_lays 76 = .ok (.return_, 1) := by decide +kernel
set_option maxRecDepth 20000 in
theorem ggX9_isItem_X9_in : GoodIn wsX9_isItem wsX9_in := goodIn_r _ [5] (by decide +kernel) (by decide +kernel)
set_option maxRecDepth 20000 in
theorem gX9_isItem_X9_in : GoodIn wsX9_isItem (va_wsS RX9 57 yX9_in wsX9_in) := goodIn_app (goodIn_of _ (by decide +kernel)) ggX9_isItem_X9_in
theorem dX9_isItem_0 : decode cX9_isItem 0 = .ok (.iload_n 1, 1) := by decide +kernel
theorem dX9_isItem_1 : decode cX9_isItem 1 = .ok (.iconst 0, 1) := by decide +kernel
theorem dX9_isItem_2 : decode cX9_isItem 2 = .ok (.aload_n 0, 1) := by decide +kernel
theorem dX9_isItem_3 : decode cX9_isItem 3 = .ok (.getfield 7, 3) := by decide +kernel
theorem dX9_isItem_6 : decode cX9_isItem 6 = .ok (.iconst 0, 1) := by decide +kernel
theorem dX9_isItem_7 : decode cX9_isItem 7 = .ok (.iaload, 1) := by decide +kernel
theorem dX9_isItem_8 : decode cX9_isItem 8 = .ok (.iconst 1, 1) := by decide +kernel
theorem dX9_isItem_9 : decode cX9_isItem 9 = .ok (.isub, 1) := by decide +kernel
theorem dX9_isItem_10 : decode cX9_isItem 10 = .ok (.invokestatic 57, 3) := by decide +kernel
theorem dX9_isItem_13 : decode cX9_isItem 13 = .ok (.ireturn, 1) := by decide +kernel
set_option maxRecDepth 20000 in
theorem ggX9_isSet_X9_in : GoodIn wsX9_isSet wsX9_in := goodIn_r _ [5] (by decide +kernel) (by decide +kernel)
set_option maxRecDepth 20000 in
theorem gX9_isSet_X9_in : GoodIn wsX9_isSet (va_wsS RX9 57 yX9_in wsX9_in) := goodIn_app (goodIn_of _ (by decide +kernel)) ggX9_isSet_X9_in
theorem dX9_isSet_0 : decode cX9_isSet 0 = .ok (.iload_n 1, 1) := by decide +kernel
theorem dX9_isSet_1 : decode cX9_isSet 1 = .ok (.iconst 0, 1) := by decide +kernel
theorem dX9_isSet_2 : decode cX9_isSet 2 = .ok (.iconst 1, 1) := by decide +kernel
theorem dX9_isSet_3 : decode cX9_isSet 3 = .ok (.aload_n 0, 1) := by decide +kernel
theorem dX9_isSet_4 : decode cX9_isSet 4 = .ok (.getfield 7, 3) := by decide +kernel
theorem dX9_isSet_7 : decode cX9_isSet 7 = .ok (.iconst 0, 1) := by decide +kernel
theorem dX9_isSet_8 : decode cX9_isSet 8 = .ok (.iaload, 1) := by decide +kernel
theorem dX9_isSet_9 : decode cX9_isSet 9 = .ok (.ishl, 1) := by decide +kernel
theorem dX9_isSet_10 : decode cX9_isSet 10 = .ok (.iconst 1, 1) := by decide +kernel
theorem dX9_isSet_11 : decode cX9_isSet 11 = .ok (.isub, 1) := by decide +kernel
theorem dX9_isSet_12 : decode cX9_isSet 12 = .ok (.invokestatic 57, 3) := by decide +kernel
theorem dX9_isSet_15 : decode cX9_isSet 15 = .ok (.ireturn, 1) := by decide +kernel
set_option maxRecDepth 20000 in
theorem ggX9_notes_X9_bring : GoodIn wsX9_notes wsX9_bring := goodIn_r _ [7] (by decide +kernel) (by decide +kernel)
set_option maxRecDepth 20000 in
theorem gX9_notes_X9_bring : GoodIn wsX9_notes (va_wsS RX9 65 yX9_bring wsX9_bring) := goodIn_app (goodIn_of _ (by decide +kernel)) ggX9_notes_X9_bring
theorem dX9_notes_0 : decode cX9_notes 0 = .ok (.aload_n 0, 1) := by decide +kernel
theorem dX9_notes_1 : decode cX9_notes 1 = .ok (.getfield 61, 3) := by decide +kernel
theorem dX9_notes_4 : decode cX9_notes 4 = .ok (.bipush 16, 2) := by decide +kernel
theorem dX9_notes_6 : decode cX9_notes 6 = .ok (.if_icmp .ne 30, 3) := by decide +kernel
theorem dX9_notes_9 : decode cX9_notes 9 = .ok (.aload_n 0, 1) := by decide +kernel
theorem dX9_notes_10 : decode cX9_notes 10 = .ok (.getfield 13, 3) := by decide +kernel
theorem dX9_notes_13 : decode cX9_notes 13 = .ok (.bipush 76, 2) := by decide +kernel
theorem dX9_notes_15 : decode cX9_notes 15 = .ok (.aload_n 0, 1) := by decide +kernel
theorem dX9_notes_16 : decode cX9_notes 16 = .ok (.getfield 13, 3) := by decide +kernel
theorem dX9_notes_19 : decode cX9_notes 19 = .ok (.iconst 0, 1) := by decide +kernel
theorem dX9_notes_20 : decode cX9_notes 20 = .ok (.sipush 1140, 3) := by decide +kernel
theorem dX9_notes_23 : decode cX9_notes 23 = .ok (.invokestatic 65, 3) := by decide +kernel
theorem dX9_notes_26 : decode cX9_notes 26 = .ok (.aload_n 0, 1) := by decide +kernel
theorem dX9_notes_27 : decode cX9_notes 27 = .ok (.dup, 1) := by decide +kernel
theorem dX9_notes_28 : decode cX9_notes 28 = .ok (.getfield 61, 3) := by decide +kernel
theorem dX9_notes_31 : decode cX9_notes 31 = .ok (.iconst 1, 1) := by decide +kernel
theorem dX9_notes_32 : decode cX9_notes 32 = .ok (.isub, 1) := by decide +kernel
theorem dX9_notes_33 : decode cX9_notes 33 = .ok (.putfield 61, 3) := by decide +kernel
theorem dX9_notes_36 : decode cX9_notes 36 = .ok (.aload_n 0, 1) := by decide +kernel
theorem dX9_notes_37 : decode cX9_notes 37 = .ok (.getfield 7, 3) := by decide +kernel
theorem dX9_notes_40 : decode cX9_notes 40 = .ok (.iconst 0, 1) := by decide +kernel
theorem dX9_notes_41 : decode cX9_notes 41 = .ok (.aload_n 0, 1) := by decide +kernel
theorem dX9_notes_42 : decode cX9_notes 42 = .ok (.getfield 13, 3) := by decide +kernel
theorem dX9_notes_45 : decode cX9_notes 45 = .ok (.bipush 76, 2) := by decide +kernel
theorem dX9_notes_47 : decode cX9_notes 47 = .ok (.aload_n 0, 1) := by decide +kernel
theorem dX9_notes_48 : decode cX9_notes 48 = .ok (.getfield 61, 3) := by decide +kernel
theorem dX9_notes_51 : decode cX9_notes 51 = .ok (.imul, 1) := by decide +kernel
theorem dX9_notes_52 : decode cX9_notes 52 = .ok (.bipush 76, 2) := by decide +kernel
theorem dX9_notes_54 : decode cX9_notes 54 = .ok (.invokestatic 65, 3) := by decide +kernel
theorem dX9_notes_57 : decode cX9_notes 57 = .ok (.aload_n 0, 1) := by decide +kernel
theorem dX9_notes_58 : decode cX9_notes 58 = .ok (.dup, 1) := by decide +kernel
theorem dX9_notes_59 : decode cX9_notes 59 = .ok (.getfield 61, 3) := by decide +kernel
theorem dX9_notes_62 : decode cX9_notes 62 = .ok (.iconst 1, 1) := by decide +kernel
theorem dX9_notes_63 : decode cX9_notes 63 = .ok (.iadd, 1) := by decide +kernel
theorem dX9_notes_64 : decode cX9_notes 64 = .ok (.putfield 61, 3) := by decide +kernel
theorem dX9_notes_67 : decode cX9_notes 67 = .ok (.return_, 1) := by decide +kernel
theorem dX9_classes_0 : decode cX9_classes 0 = .ok (.iconst (-1), 1) := by decide +kernel
theorem dX9_classes_1 : decode cX9_classes 1 = .ok (.istore_n 3, 1) := by decide +kernel
theorem dX9_classes_2 : decode cX9_classes 2 = .ok (.iconst 0, 1) := by decide +kernel
theorem dX9_classes_3 : decode cX9_classes 3 = .ok (.istore 4, 2) := by decide +kernel
theorem dX9_classes_5 : decode cX9_classes 5 = .ok (.iload 4, 2) := by decide +kernel
theorem dX9_classes_7 : decode cX9_classes 7 = .ok (.aload_n 0, 1) := by decide +kernel
theorem dX9_classes_8 : decode cX9_classes 8 = .ok (.getfield 7, 3) := by decide +kernel
theorem dX9_classes_11 : decode cX9_classes 11 = .ok (.iconst 0, 1) := by decide +kernel
theorem dX9_classes_12 : decode cX9_classes 12 = .ok (.iaload, 1) := by decide +kernel
theorem dX9_classes_13 : decode cX9_classes 13 = .ok (.if_icmp .ge 30, 3) := by decide +kernel
theorem dX9_classes_16 : decode cX9_classes 16 = .ok (.aload_n 1, 1) := by decide +kernel
theorem dX9_classes_17 : decode cX9_classes 17 = .ok (.iload_n 2, 1) := by decide +kernel
theorem dX9_classes_18 : decode cX9_classes 18 = .ok (.iload 4, 2) := by decide +kernel
theorem dX9_classes_20 : decode cX9_classes 20 = .ok (.iadd, 1) := by decide +kernel
theorem dX9_classes_21 : decode cX9_classes 21 = .ok (.iaload, 1) := by decide +kernel
theorem dX9_classes_22 : decode cX9_classes 22 = .ok (.iload_n 3, 1) := by decide +kernel
theorem dX9_classes_23 : decode cX9_classes 23 = .ok (.if_icmp .le 12, 3) := by decide +kernel
theorem dX9_classes_26 : decode cX9_classes 26 = .ok (.aload_n 1, 1) := by decide +kernel
theorem dX9_classes_27 : decode cX9_classes 27 = .ok (.iload_n 2, 1) := by decide +kernel
theorem dX9_classes_28 : decode cX9_classes 28 = .ok (.iload 4, 2) := by decide +kernel
theorem dX9_classes_30 : decode cX9_classes 30 = .ok (.iadd, 1) := by decide +kernel
theorem dX9_classes_31 : decode cX9_classes 31 = .ok (.iaload, 1) := by decide +kernel
theorem dX9_classes_32 : decode cX9_classes 32 = .ok (.goto 4, 3) := by decide +kernel
theorem dX9_classes_35 : decode cX9_classes 35 = .ok (.iload_n 3, 1) := by decide +kernel
theorem dX9_classes_36 : decode cX9_classes 36 = .ok (.istore_n 3, 1) := by decide +kernel
theorem dX9_classes_37 : decode cX9_classes 37 = .ok (.iinc 4 1, 3) := by decide +kernel
theorem dX9_classes_40 : decode cX9_classes 40 = .ok (.goto (-35), 3) := by decide +kernel
theorem dX9_classes_43 : decode cX9_classes 43 = .ok (.iload_n 3, 1) := by decide +kernel
theorem dX9_classes_44 : decode cX9_classes 44 = .ok (.iconst 1, 1) := by decide +kernel
theorem dX9_classes_45 : decode cX9_classes 45 = .ok (.iadd, 1) := by decide +kernel
theorem dX9_classes_46 : decode cX9_classes 46 = .ok (.ireturn, 1) := by decide +kernel
theorem dX9_membersOf_0 : decode cX9_membersOf 0 = .ok (.iconst 0, 1) := by decide +kernel
theorem dX9_membersOf_1 : decode cX9_membersOf 1 = .ok (.istore 4, 2) := by decide +kernel
theorem dX9_membersOf_3 : decode cX9_membersOf 3 = .ok (.iconst 0, 1) := by decide +kernel
theorem dX9_membersOf_4 : decode cX9_membersOf 4 = .ok (.istore 5, 2) := by decide +kernel
theorem dX9_membersOf_6 : decode cX9_membersOf 6 = .ok (.iload 5, 2) := by decide +kernel
theorem dX9_membersOf_8 : decode cX9_membersOf 8 = .ok (.aload_n 0, 1) := by decide +kernel
theorem dX9_membersOf_9 : decode cX9_membersOf 9 = .ok (.getfield 7, 3) := by decide +kernel
theorem dX9_membersOf_12 : decode cX9_membersOf 12 = .ok (.iconst 0, 1) := by decide +kernel
theorem dX9_membersOf_13 : decode cX9_membersOf 13 = .ok (.iaload, 1) := by decide +kernel
theorem dX9_membersOf_14 : decode cX9_membersOf 14 = .ok (.if_icmp .ge 32, 3) := by decide +kernel
theorem dX9_membersOf_17 : decode cX9_membersOf 17 = .ok (.iload 4, 2) := by decide +kernel
theorem dX9_membersOf_19 : decode cX9_membersOf 19 = .ok (.aload_n 1, 1) := by decide +kernel
theorem dX9_membersOf_20 : decode cX9_membersOf 20 = .ok (.iload_n 2, 1) := by decide +kernel
theorem dX9_membersOf_21 : decode cX9_membersOf 21 = .ok (.iload 5, 2) := by decide +kernel
theorem dX9_membersOf_23 : decode cX9_membersOf 23 = .ok (.iadd, 1) := by decide +kernel
theorem dX9_membersOf_24 : decode cX9_membersOf 24 = .ok (.iaload, 1) := by decide +kernel
theorem dX9_membersOf_25 : decode cX9_membersOf 25 = .ok (.iload_n 3, 1) := by decide +kernel
theorem dX9_membersOf_26 : decode cX9_membersOf 26 = .ok (.if_icmp .ne 10, 3) := by decide +kernel
theorem dX9_membersOf_29 : decode cX9_membersOf 29 = .ok (.iconst 1, 1) := by decide +kernel
theorem dX9_membersOf_30 : decode cX9_membersOf 30 = .ok (.iload 5, 2) := by decide +kernel
theorem dX9_membersOf_32 : decode cX9_membersOf 32 = .ok (.ishl, 1) := by decide +kernel
theorem dX9_membersOf_33 : decode cX9_membersOf 33 = .ok (.goto 4, 3) := by decide +kernel
theorem dX9_membersOf_36 : decode cX9_membersOf 36 = .ok (.iconst 0, 1) := by decide +kernel
theorem dX9_membersOf_37 : decode cX9_membersOf 37 = .ok (.ior, 1) := by decide +kernel
theorem dX9_membersOf_38 : decode cX9_membersOf 38 = .ok (.istore 4, 2) := by decide +kernel
theorem dX9_membersOf_40 : decode cX9_membersOf 40 = .ok (.iinc 5 1, 3) := by decide +kernel
theorem dX9_membersOf_43 : decode cX9_membersOf 43 = .ok (.goto (-37), 3) := by decide +kernel
theorem dX9_membersOf_46 : decode cX9_membersOf 46 = .ok (.iload 4, 2) := by decide +kernel
theorem dX9_membersOf_48 : decode cX9_membersOf 48 = .ok (.ireturn, 1) := by decide +kernel
set_option maxRecDepth 20000 in
theorem ggX9_gives_X9_has : GoodIn wsX9_gives wsX9_has := goodIn_r _ [5] (by decide +kernel) (by decide +kernel)
set_option maxRecDepth 20000 in
theorem gX9_gives_X9_has : GoodIn wsX9_gives (va_wsS RX9 69 yX9_has wsX9_has) := goodIn_app (goodIn_of _ (by decide +kernel)) ggX9_gives_X9_has
theorem dX9_gives_0 : decode cX9_gives 0 = .ok (.iconst 0, 1) := by decide +kernel
theorem dX9_gives_1 : decode cX9_gives 1 = .ok (.istore 5, 2) := by decide +kernel
theorem dX9_gives_3 : decode cX9_gives 3 = .ok (.iload 5, 2) := by decide +kernel
theorem dX9_gives_5 : decode cX9_gives 5 = .ok (.aload_n 0, 1) := by decide +kernel
theorem dX9_gives_6 : decode cX9_gives 6 = .ok (.getfield 7, 3) := by decide +kernel
theorem dX9_gives_9 : decode cX9_gives 9 = .ok (.iconst 0, 1) := by decide +kernel
theorem dX9_gives_10 : decode cX9_gives 10 = .ok (.iaload, 1) := by decide +kernel
theorem dX9_gives_11 : decode cX9_gives 11 = .ok (.if_icmp .ge 35, 3) := by decide +kernel
theorem dX9_gives_14 : decode cX9_gives 14 = .ok (.aload_n 1, 1) := by decide +kernel
theorem dX9_gives_15 : decode cX9_gives 15 = .ok (.iload_n 2, 1) := by decide +kernel
theorem dX9_gives_16 : decode cX9_gives 16 = .ok (.iload 5, 2) := by decide +kernel
theorem dX9_gives_18 : decode cX9_gives 18 = .ok (.iadd, 1) := by decide +kernel
theorem dX9_gives_19 : decode cX9_gives 19 = .ok (.iload_n 3, 1) := by decide +kernel
theorem dX9_gives_20 : decode cX9_gives 20 = .ok (.iload 5, 2) := by decide +kernel
theorem dX9_gives_22 : decode cX9_gives 22 = .ok (.invokestatic 69, 3) := by decide +kernel
theorem dX9_gives_25 : decode cX9_gives 25 = .ok (.ifCond .eq 8, 3) := by decide +kernel
theorem dX9_gives_28 : decode cX9_gives 28 = .ok (.iload 4, 2) := by decide +kernel
theorem dX9_gives_30 : decode cX9_gives 30 = .ok (.goto 9, 3) := by decide +kernel
theorem dX9_gives_33 : decode cX9_gives 33 = .ok (.aload_n 1, 1) := by decide +kernel
theorem dX9_gives_34 : decode cX9_gives 34 = .ok (.iload_n 2, 1) := by decide +kernel
theorem dX9_gives_35 : decode cX9_gives 35 = .ok (.iload 5, 2) := by decide +kernel
theorem dX9_gives_37 : decode cX9_gives 37 = .ok (.iadd, 1) := by decide +kernel
theorem dX9_gives_38 : decode cX9_gives 38 = .ok (.iaload, 1) := by decide +kernel
theorem dX9_gives_39 : decode cX9_gives 39 = .ok (.iastore, 1) := by decide +kernel
theorem dX9_gives_40 : decode cX9_gives 40 = .ok (.iinc 5 1, 3) := by decide +kernel
theorem dX9_gives_43 : decode cX9_gives 43 = .ok (.goto (-40), 3) := by decide +kernel
theorem dX9_gives_46 : decode cX9_gives 46 = .ok (.return_, 1) := by decide +kernel
set_option maxRecDepth 20000 in
theorem ggX9_splits_X9_classes : GoodIn wsX9_splits wsX9_classes := goodIn_r _ [6, 7, 22, 23, 24, 25, 26, 27, 28, 29, 30, 31, 32, 33, 34, 35, 36, 37, 38] (by decide +kernel) (by decide +kernel)
set_option maxRecDepth 20000 in
theorem gX9_splits_X9_classes : GoodIn wsX9_splits (wsV RX9 73 RX9 yX9_classes wsX9_classes) := goodIn_app (goodIn_of _ (by decide +kernel)) ggX9_splits_X9_classes
set_option maxRecDepth 20000 in
theorem ggX9_splits_X9_bring : GoodIn wsX9_splits wsX9_bring := goodIn_r _ [10] (by decide +kernel) (by decide +kernel)
set_option maxRecDepth 20000 in
theorem gX9_splits_X9_bring : GoodIn wsX9_splits (va_wsS RX9 65 yX9_bring wsX9_bring) := goodIn_app (goodIn_of _ (by decide +kernel)) ggX9_splits_X9_bring
set_option maxRecDepth 20000 in
theorem ggX9_splits_X9_membersOf : GoodIn wsX9_splits wsX9_membersOf := goodIn_r _ [14, 7, 22, 23, 24, 25, 26, 27, 28, 29, 30, 31, 32, 33, 34, 35, 36, 37, 38] (by decide +kernel) (by decide +kernel)
set_option maxRecDepth 20000 in
theorem gX9_splits_X9_membersOf : GoodIn wsX9_splits (wsV RX9 77 RX9 yX9_membersOf wsX9_membersOf) := goodIn_app (goodIn_of _ (by decide +kernel)) ggX9_splits_X9_membersOf
set_option maxRecDepth 20000 in
theorem ggX9_splits_X9_gives : GoodIn wsX9_splits wsX9_gives := goodIn_r _ [18, 7, 19, 20, 5, 21, 22, 23, 24, 25, 26, 27, 28, 29, 30, 31, 32, 33, 34, 35, 36, 37, 38] (by decide +kernel) (by decide +kernel)
set_option maxRecDepth 20000 in
theorem gX9_splits_X9_gives : GoodIn wsX9_splits (wsV RX9 81 RX9 yX9_gives wsX9_gives) := goodIn_app (goodIn_of _ (by decide +kernel)) ggX9_splits_X9_gives
theorem dX9_splits_0 : decode cX9_splits 0 = .ok (.aload_n 0, 1) := by decide +kernel
theorem dX9_splits_1 : decode cX9_splits 1 = .ok (.aload_n 1, 1) := by decide +kernel
theorem dX9_splits_2 : decode cX9_splits 2 = .ok (.iload_n 2, 1) := by decide +kernel
theorem dX9_splits_3 : decode cX9_splits 3 = .ok (.invokevirtual 73, 3) := by decide +kernel
theorem dX9_splits_6 : decode cX9_splits 6 = .ok (.istore 4, 2) := by decide +kernel
theorem dX9_splits_8 : decode cX9_splits 8 = .ok (.iconst 0, 1) := by decide +kernel
theorem dX9_splits_9 : decode cX9_splits 9 = .ok (.istore 5, 2) := by decide +kernel
theorem dX9_splits_11 : decode cX9_splits 11 = .ok (.aload_n 1, 1) := by decide +kernel
theorem dX9_splits_12 : decode cX9_splits 12 = .ok (.iload_n 2, 1) := by decide +kernel
theorem dX9_splits_13 : decode cX9_splits 13 = .ok (.aload_n 0, 1) := by decide +kernel
theorem dX9_splits_14 : decode cX9_splits 14 = .ok (.getfield 29, 3) := by decide +kernel
theorem dX9_splits_17 : decode cX9_splits 17 = .ok (.iconst 0, 1) := by decide +kernel
theorem dX9_splits_18 : decode cX9_splits 18 = .ok (.bipush 12, 2) := by decide +kernel
theorem dX9_splits_20 : decode cX9_splits 20 = .ok (.invokestatic 65, 3) := by decide +kernel
theorem dX9_splits_23 : decode cX9_splits 23 = .ok (.iconst 0, 1) := by decide +kernel
theorem dX9_splits_24 : decode cX9_splits 24 = .ok (.istore 6, 2) := by decide +kernel
theorem dX9_splits_26 : decode cX9_splits 26 = .ok (.iload 6, 2) := by decide +kernel
theorem dX9_splits_28 : decode cX9_splits 28 = .ok (.iload 4, 2) := by decide +kernel
theorem dX9_splits_30 : decode cX9_splits 30 = .ok (.if_icmp .ge 77, 3) := by decide +kernel
theorem dX9_splits_33 : decode cX9_splits 33 = .ok (.aload_n 0, 1) := by decide +kernel
theorem dX9_splits_34 : decode cX9_splits 34 = .ok (.aload_n 1, 1) := by decide +kernel
theorem dX9_splits_35 : decode cX9_splits 35 = .ok (.iload_n 2, 1) := by decide +kernel
theorem dX9_splits_36 : decode cX9_splits 36 = .ok (.iload 6, 2) := by decide +kernel
theorem dX9_splits_38 : decode cX9_splits 38 = .ok (.invokevirtual 77, 3) := by decide +kernel
theorem dX9_splits_41 : decode cX9_splits 41 = .ok (.iload_n 3, 1) := by decide +kernel
theorem dX9_splits_42 : decode cX9_splits 42 = .ok (.iand, 1) := by decide +kernel
theorem dX9_splits_43 : decode cX9_splits 43 = .ok (.istore 7, 2) := by decide +kernel
theorem dX9_splits_45 : decode cX9_splits 45 = .ok (.aload_n 0, 1) := by decide +kernel
theorem dX9_splits_46 : decode cX9_splits 46 = .ok (.aload_n 1, 1) := by decide +kernel
theorem dX9_splits_47 : decode cX9_splits 47 = .ok (.iload_n 2, 1) := by decide +kernel
theorem dX9_splits_48 : decode cX9_splits 48 = .ok (.iload 6, 2) := by decide +kernel
theorem dX9_splits_50 : decode cX9_splits 50 = .ok (.invokevirtual 77, 3) := by decide +kernel
theorem dX9_splits_53 : decode cX9_splits 53 = .ok (.iload_n 3, 1) := by decide +kernel
theorem dX9_splits_54 : decode cX9_splits 54 = .ok (.iconst (-1), 1) := by decide +kernel
theorem dX9_splits_55 : decode cX9_splits 55 = .ok (.ixor, 1) := by decide +kernel
theorem dX9_splits_56 : decode cX9_splits 56 = .ok (.iand, 1) := by decide +kernel
theorem dX9_splits_57 : decode cX9_splits 57 = .ok (.istore 8, 2) := by decide +kernel
theorem dX9_splits_59 : decode cX9_splits 59 = .ok (.iload 7, 2) := by decide +kernel
theorem dX9_splits_61 : decode cX9_splits 61 = .ok (.ifCond .eq 19, 3) := by decide +kernel
theorem dX9_splits_64 : decode cX9_splits 64 = .ok (.aload_n 0, 1) := by decide +kernel
theorem dX9_splits_65 : decode cX9_splits 65 = .ok (.aload_n 0, 1) := by decide +kernel
theorem dX9_splits_66 : decode cX9_splits 66 = .ok (.getfield 29, 3) := by decide +kernel
theorem dX9_splits_69 : decode cX9_splits 69 = .ok (.iconst 0, 1) := by decide +kernel
theorem dX9_splits_70 : decode cX9_splits 70 = .ok (.iload 7, 2) := by decide +kernel
theorem dX9_splits_72 : decode cX9_splits 72 = .ok (.iload 5, 2) := by decide +kernel
theorem dX9_splits_74 : decode cX9_splits 74 = .ok (.invokevirtual 81, 3) := by decide +kernel
theorem dX9_splits_77 : decode cX9_splits 77 = .ok (.iinc 5 1, 3) := by decide +kernel
theorem dX9_splits_80 : decode cX9_splits 80 = .ok (.iload 8, 2) := by decide +kernel
theorem dX9_splits_82 : decode cX9_splits 82 = .ok (.ifCond .eq 19, 3) := by decide +kernel
theorem dX9_splits_85 : decode cX9_splits 85 = .ok (.aload_n 0, 1) := by decide +kernel
theorem dX9_splits_86 : decode cX9_splits 86 = .ok (.aload_n 0, 1) := by decide +kernel
theorem dX9_splits_87 : decode cX9_splits 87 = .ok (.getfield 29, 3) := by decide +kernel
theorem dX9_splits_90 : decode cX9_splits 90 = .ok (.iconst 0, 1) := by decide +kernel
theorem dX9_splits_91 : decode cX9_splits 91 = .ok (.iload 8, 2) := by decide +kernel
theorem dX9_splits_93 : decode cX9_splits 93 = .ok (.iload 5, 2) := by decide +kernel
theorem dX9_splits_95 : decode cX9_splits 95 = .ok (.invokevirtual 81, 3) := by decide +kernel
theorem dX9_splits_98 : decode cX9_splits 98 = .ok (.iinc 5 1, 3) := by decide +kernel
theorem dX9_splits_101 : decode cX9_splits 101 = .ok (.iinc 6 1, 3) := by decide +kernel
theorem dX9_splits_104 : decode cX9_splits 104 = .ok (.goto (-78), 3) := by decide +kernel
theorem dX9_splits_107 : decode cX9_splits 107 = .ok (.aload_n 0, 1) := by decide +kernel
theorem dX9_splits_108 : decode cX9_splits 108 = .ok (.getfield 29, 3) := by decide +kernel
theorem dX9_splits_111 : decode cX9_splits 111 = .ok (.iconst 0, 1) := by decide +kernel
theorem dX9_splits_112 : decode cX9_splits 112 = .ok (.aload_n 1, 1) := by decide +kernel
theorem dX9_splits_113 : decode cX9_splits 113 = .ok (.iload_n 2, 1) := by decide +kernel
theorem dX9_splits_114 : decode cX9_splits 114 = .ok (.bipush 12, 2) := by decide +kernel
theorem dX9_splits_116 : decode cX9_splits 116 = .ok (.invokestatic 65, 3) := by decide +kernel
theorem dX9_splits_119 : decode cX9_splits 119 = .ok (.return_, 1) := by decide +kernel
set_option maxRecDepth 20000 in
theorem ggX9_arranges_X9_bring : GoodIn wsX9_arranges wsX9_bring := goodIn_r _ [6] (by decide +kernel) (by decide +kernel)
set_option maxRecDepth 20000 in
theorem gX9_arranges_X9_bring : GoodIn wsX9_arranges (va_wsS RX9 65 yX9_bring wsX9_bring) := goodIn_app (goodIn_of _ (by decide +kernel)) ggX9_arranges_X9_bring
set_option maxRecDepth 20000 in
theorem ggX9_arranges_X9_membersOf : GoodIn wsX9_arranges wsX9_membersOf := goodIn_r _ [10, 2, 18, 19, 20, 21, 22, 23, 24, 25, 26, 27, 28, 29, 30, 31, 32, 33, 34] (by decide +kernel) (by decide +kernel)
set_option maxRecDepth 20000 in
theorem gX9_arranges_X9_membersOf : GoodIn wsX9_arranges (wsV RX9 77 RX9 yX9_membersOf wsX9_membersOf) := goodIn_app (goodIn_of _ (by decide +kernel)) ggX9_arranges_X9_membersOf
set_option maxRecDepth 20000 in
theorem ggX9_arranges_X9_gives : GoodIn wsX9_arranges wsX9_gives := goodIn_r _ [14, 2, 15, 16, 5, 17, 18, 19, 20, 21, 22, 23, 24, 25, 26, 27, 28, 29, 30, 31, 32, 33, 34] (by decide +kernel) (by decide +kernel)
set_option maxRecDepth 20000 in
theorem gX9_arranges_X9_gives : GoodIn wsX9_arranges (wsV RX9 81 RX9 yX9_gives wsX9_gives) := goodIn_app (goodIn_of _ (by decide +kernel)) ggX9_arranges_X9_gives
theorem dX9_arranges_0 : decode cX9_arranges 0 = .ok (.iconst 0, 1) := by decide +kernel
theorem dX9_arranges_1 : decode cX9_arranges 1 = .ok (.istore_n 3, 1) := by decide +kernel
theorem dX9_arranges_2 : decode cX9_arranges 2 = .ok (.aload_n 1, 1) := by decide +kernel
theorem dX9_arranges_3 : decode cX9_arranges 3 = .ok (.iload_n 2, 1) := by decide +kernel
theorem dX9_arranges_4 : decode cX9_arranges 4 = .ok (.aload_n 0, 1) := by decide +kernel
theorem dX9_arranges_5 : decode cX9_arranges 5 = .ok (.getfield 29, 3) := by decide +kernel
theorem dX9_arranges_8 : decode cX9_arranges 8 = .ok (.iconst 0, 1) := by decide +kernel
theorem dX9_arranges_9 : decode cX9_arranges 9 = .ok (.bipush 12, 2) := by decide +kernel
theorem dX9_arranges_11 : decode cX9_arranges 11 = .ok (.invokestatic 65, 3) := by decide +kernel
theorem dX9_arranges_14 : decode cX9_arranges 14 = .ok (.iconst 0, 1) := by decide +kernel
theorem dX9_arranges_15 : decode cX9_arranges 15 = .ok (.istore 4, 2) := by decide +kernel
theorem dX9_arranges_17 : decode cX9_arranges 17 = .ok (.iload 4, 2) := by decide +kernel
theorem dX9_arranges_19 : decode cX9_arranges 19 = .ok (.aload_n 0, 1) := by decide +kernel
theorem dX9_arranges_20 : decode cX9_arranges 20 = .ok (.getfield 7, 3) := by decide +kernel
theorem dX9_arranges_23 : decode cX9_arranges 23 = .ok (.iconst 0, 1) := by decide +kernel
theorem dX9_arranges_24 : decode cX9_arranges 24 = .ok (.iaload, 1) := by decide +kernel
theorem dX9_arranges_25 : decode cX9_arranges 25 = .ok (.if_icmp .ge 50, 3) := by decide +kernel
theorem dX9_arranges_28 : decode cX9_arranges 28 = .ok (.aload_n 0, 1) := by decide +kernel
theorem dX9_arranges_29 : decode cX9_arranges 29 = .ok (.aload_n 1, 1) := by decide +kernel
theorem dX9_arranges_30 : decode cX9_arranges 30 = .ok (.iload_n 2, 1) := by decide +kernel
theorem dX9_arranges_31 : decode cX9_arranges 31 = .ok (.aload_n 1, 1) := by decide +kernel
theorem dX9_arranges_32 : decode cX9_arranges 32 = .ok (.iload_n 2, 1) := by decide +kernel
theorem dX9_arranges_33 : decode cX9_arranges 33 = .ok (.iload 4, 2) := by decide +kernel
theorem dX9_arranges_35 : decode cX9_arranges 35 = .ok (.iadd, 1) := by decide +kernel
theorem dX9_arranges_36 : decode cX9_arranges 36 = .ok (.iaload, 1) := by decide +kernel
theorem dX9_arranges_37 : decode cX9_arranges 37 = .ok (.invokevirtual 77, 3) := by decide +kernel
theorem dX9_arranges_40 : decode cX9_arranges 40 = .ok (.istore 5, 2) := by decide +kernel
theorem dX9_arranges_42 : decode cX9_arranges 42 = .ok (.iload 5, 2) := by decide +kernel
theorem dX9_arranges_44 : decode cX9_arranges 44 = .ok (.iconst 1, 1) := by decide +kernel
theorem dX9_arranges_45 : decode cX9_arranges 45 = .ok (.iload 4, 2) := by decide +kernel
theorem dX9_arranges_47 : decode cX9_arranges 47 = .ok (.ishl, 1) := by decide +kernel
theorem dX9_arranges_48 : decode cX9_arranges 48 = .ok (.iconst 1, 1) := by decide +kernel
theorem dX9_arranges_49 : decode cX9_arranges 49 = .ok (.isub, 1) := by decide +kernel
theorem dX9_arranges_50 : decode cX9_arranges 50 = .ok (.iand, 1) := by decide +kernel
theorem dX9_arranges_51 : decode cX9_arranges 51 = .ok (.ifCond .ne 18, 3) := by decide +kernel
theorem dX9_arranges_54 : decode cX9_arranges 54 = .ok (.aload_n 0, 1) := by decide +kernel
theorem dX9_arranges_55 : decode cX9_arranges 55 = .ok (.aload_n 0, 1) := by decide +kernel
theorem dX9_arranges_56 : decode cX9_arranges 56 = .ok (.getfield 29, 3) := by decide +kernel
theorem dX9_arranges_59 : decode cX9_arranges 59 = .ok (.iconst 0, 1) := by decide +kernel
theorem dX9_arranges_60 : decode cX9_arranges 60 = .ok (.iload 5, 2) := by decide +kernel
theorem dX9_arranges_62 : decode cX9_arranges 62 = .ok (.iload_n 3, 1) := by decide +kernel
theorem dX9_arranges_63 : decode cX9_arranges 63 = .ok (.invokevirtual 81, 3) := by decide +kernel
theorem dX9_arranges_66 : decode cX9_arranges 66 = .ok (.iinc 3 1, 3) := by decide +kernel
theorem dX9_arranges_69 : decode cX9_arranges 69 = .ok (.iinc 4 1, 3) := by decide +kernel
theorem dX9_arranges_72 : decode cX9_arranges 72 = .ok (.goto (-55), 3) := by decide +kernel
theorem dX9_arranges_75 : decode cX9_arranges 75 = .ok (.aload_n 0, 1) := by decide +kernel
theorem dX9_arranges_76 : decode cX9_arranges 76 = .ok (.getfield 29, 3) := by decide +kernel
theorem dX9_arranges_79 : decode cX9_arranges 79 = .ok (.iconst 0, 1) := by decide +kernel
theorem dX9_arranges_80 : decode cX9_arranges 80 = .ok (.aload_n 1, 1) := by decide +kernel
theorem dX9_arranges_81 : decode cX9_arranges 81 = .ok (.iload_n 2, 1) := by decide +kernel
theorem dX9_arranges_82 : decode cX9_arranges 82 = .ok (.bipush 12, 2) := by decide +kernel
theorem dX9_arranges_84 : decode cX9_arranges 84 = .ok (.invokestatic 65, 3) := by decide +kernel
theorem dX9_arranges_87 : decode cX9_arranges 87 = .ok (.return_, 1) := by decide +kernel
set_option maxRecDepth 20000 in
theorem ggX9_columnSet_X9_has : GoodIn wsX9_columnSet wsX9_has := goodIn_r _ [5] (by decide +kernel) (by decide +kernel)
set_option maxRecDepth 20000 in
theorem gX9_columnSet_X9_has : GoodIn wsX9_columnSet (va_wsS RX9 69 yX9_has wsX9_has) := goodIn_app (goodIn_of _ (by decide +kernel)) ggX9_columnSet_X9_has
theorem dX9_columnSet_0 : decode cX9_columnSet 0 = .ok (.iconst 0, 1) := by decide +kernel
theorem dX9_columnSet_1 : decode cX9_columnSet 1 = .ok (.istore_n 2, 1) := by decide +kernel
theorem dX9_columnSet_2 : decode cX9_columnSet 2 = .ok (.iconst 0, 1) := by decide +kernel
theorem dX9_columnSet_3 : decode cX9_columnSet 3 = .ok (.istore_n 3, 1) := by decide +kernel
theorem dX9_columnSet_4 : decode cX9_columnSet 4 = .ok (.iload_n 3, 1) := by decide +kernel
theorem dX9_columnSet_5 : decode cX9_columnSet 5 = .ok (.aload_n 0, 1) := by decide +kernel
theorem dX9_columnSet_6 : decode cX9_columnSet 6 = .ok (.getfield 7, 3) := by decide +kernel
theorem dX9_columnSet_9 : decode cX9_columnSet 9 = .ok (.iconst 0, 1) := by decide +kernel
theorem dX9_columnSet_10 : decode cX9_columnSet 10 = .ok (.iaload, 1) := by decide +kernel
theorem dX9_columnSet_11 : decode cX9_columnSet 11 = .ok (.if_icmp .ge 34, 3) := by decide +kernel
theorem dX9_columnSet_14 : decode cX9_columnSet 14 = .ok (.iload_n 2, 1) := by decide +kernel
theorem dX9_columnSet_15 : decode cX9_columnSet 15 = .ok (.aload_n 0, 1) := by decide +kernel
theorem dX9_columnSet_16 : decode cX9_columnSet 16 = .ok (.getfield 7, 3) := by decide +kernel
theorem dX9_columnSet_19 : decode cX9_columnSet 19 = .ok (.iconst 4, 1) := by decide +kernel
theorem dX9_columnSet_20 : decode cX9_columnSet 20 = .ok (.iload_n 3, 1) := by decide +kernel
theorem dX9_columnSet_21 : decode cX9_columnSet 21 = .ok (.iadd, 1) := by decide +kernel
theorem dX9_columnSet_22 : decode cX9_columnSet 22 = .ok (.iaload, 1) := by decide +kernel
theorem dX9_columnSet_23 : decode cX9_columnSet 23 = .ok (.iload_n 1, 1) := by decide +kernel
theorem dX9_columnSet_24 : decode cX9_columnSet 24 = .ok (.invokestatic 69, 3) := by decide +kernel
theorem dX9_columnSet_27 : decode cX9_columnSet 27 = .ok (.ifCond .eq 9, 3) := by decide +kernel
theorem dX9_columnSet_30 : decode cX9_columnSet 30 = .ok (.iconst 1, 1) := by decide +kernel
theorem dX9_columnSet_31 : decode cX9_columnSet 31 = .ok (.iload_n 3, 1) := by decide +kernel
theorem dX9_columnSet_32 : decode cX9_columnSet 32 = .ok (.ishl, 1) := by decide +kernel
theorem dX9_columnSet_33 : decode cX9_columnSet 33 = .ok (.goto 4, 3) := by decide +kernel
theorem dX9_columnSet_36 : decode cX9_columnSet 36 = .ok (.iconst 0, 1) := by decide +kernel
theorem dX9_columnSet_37 : decode cX9_columnSet 37 = .ok (.ior, 1) := by decide +kernel
theorem dX9_columnSet_38 : decode cX9_columnSet 38 = .ok (.istore_n 2, 1) := by decide +kernel
theorem dX9_columnSet_39 : decode cX9_columnSet 39 = .ok (.iinc 3 1, 3) := by decide +kernel
theorem dX9_columnSet_42 : decode cX9_columnSet 42 = .ok (.goto (-38), 3) := by decide +kernel
theorem dX9_columnSet_45 : decode cX9_columnSet 45 = .ok (.iload_n 2, 1) := by decide +kernel
theorem dX9_columnSet_46 : decode cX9_columnSet 46 = .ok (.ireturn, 1) := by decide +kernel
theorem dX9_leadsTo_0 : decode cX9_leadsTo 0 = .ok (.iconst 0, 1) := by decide +kernel
theorem dX9_leadsTo_1 : decode cX9_leadsTo 1 = .ok (.istore_n 3, 1) := by decide +kernel
theorem dX9_leadsTo_2 : decode cX9_leadsTo 2 = .ok (.iconst 0, 1) := by decide +kernel
theorem dX9_leadsTo_3 : decode cX9_leadsTo 3 = .ok (.istore 4, 2) := by decide +kernel
theorem dX9_leadsTo_5 : decode cX9_leadsTo 5 = .ok (.iload 4, 2) := by decide +kernel
theorem dX9_leadsTo_7 : decode cX9_leadsTo 7 = .ok (.aload_n 0, 1) := by decide +kernel
theorem dX9_leadsTo_8 : decode cX9_leadsTo 8 = .ok (.getfield 7, 3) := by decide +kernel
theorem dX9_leadsTo_11 : decode cX9_leadsTo 11 = .ok (.iconst 0, 1) := by decide +kernel
theorem dX9_leadsTo_12 : decode cX9_leadsTo 12 = .ok (.iaload, 1) := by decide +kernel
theorem dX9_leadsTo_13 : decode cX9_leadsTo 13 = .ok (.if_icmp .ge 46, 3) := by decide +kernel
theorem dX9_leadsTo_16 : decode cX9_leadsTo 16 = .ok (.iload_n 3, 1) := by decide +kernel
theorem dX9_leadsTo_17 : decode cX9_leadsTo 17 = .ok (.aload_n 0, 1) := by decide +kernel
theorem dX9_leadsTo_18 : decode cX9_leadsTo 18 = .ok (.getfield 7, 3) := by decide +kernel
theorem dX9_leadsTo_21 : decode cX9_leadsTo 21 = .ok (.bipush 64, 2) := by decide +kernel
theorem dX9_leadsTo_23 : decode cX9_leadsTo 23 = .ok (.aload_n 0, 1) := by decide +kernel
theorem dX9_leadsTo_24 : decode cX9_leadsTo 24 = .ok (.getfield 7, 3) := by decide +kernel
theorem dX9_leadsTo_27 : decode cX9_leadsTo 27 = .ok (.bipush 28, 2) := by decide +kernel
theorem dX9_leadsTo_29 : decode cX9_leadsTo 29 = .ok (.iconst 3, 1) := by decide +kernel
theorem dX9_leadsTo_30 : decode cX9_leadsTo 30 = .ok (.iload 4, 2) := by decide +kernel
theorem dX9_leadsTo_32 : decode cX9_leadsTo 32 = .ok (.imul, 1) := by decide +kernel
theorem dX9_leadsTo_33 : decode cX9_leadsTo 33 = .ok (.iadd, 1) := by decide +kernel
theorem dX9_leadsTo_34 : decode cX9_leadsTo 34 = .ok (.iload_n 1, 1) := by decide +kernel
theorem dX9_leadsTo_35 : decode cX9_leadsTo 35 = .ok (.iadd, 1) := by decide +kernel
theorem dX9_leadsTo_36 : decode cX9_leadsTo 36 = .ok (.iaload, 1) := by decide +kernel
theorem dX9_leadsTo_37 : decode cX9_leadsTo 37 = .ok (.iadd, 1) := by decide +kernel
theorem dX9_leadsTo_38 : decode cX9_leadsTo 38 = .ok (.iaload, 1) := by decide +kernel
theorem dX9_leadsTo_39 : decode cX9_leadsTo 39 = .ok (.iload_n 2, 1) := by decide +kernel
theorem dX9_leadsTo_40 : decode cX9_leadsTo 40 = .ok (.if_icmp .ne 10, 3) := by decide +kernel
theorem dX9_leadsTo_43 : decode cX9_leadsTo 43 = .ok (.iconst 1, 1) := by decide +kernel
theorem dX9_leadsTo_44 : decode cX9_leadsTo 44 = .ok (.iload 4, 2) := by decide +kernel
theorem dX9_leadsTo_46 : decode cX9_leadsTo 46 = .ok (.ishl, 1) := by decide +kernel
theorem dX9_leadsTo_47 : decode cX9_leadsTo 47 = .ok (.goto 4, 3) := by decide +kernel
theorem dX9_leadsTo_50 : decode cX9_leadsTo 50 = .ok (.iconst 0, 1) := by decide +kernel
theorem dX9_leadsTo_51 : decode cX9_leadsTo 51 = .ok (.ior, 1) := by decide +kernel
theorem dX9_leadsTo_52 : decode cX9_leadsTo 52 = .ok (.istore_n 3, 1) := by decide +kernel
theorem dX9_leadsTo_53 : decode cX9_leadsTo 53 = .ok (.iinc 4 1, 3) := by decide +kernel
theorem dX9_leadsTo_56 : decode cX9_leadsTo 56 = .ok (.goto (-51), 3) := by decide +kernel
theorem dX9_leadsTo_59 : decode cX9_leadsTo 59 = .ok (.iload_n 3, 1) := by decide +kernel
theorem dX9_leadsTo_60 : decode cX9_leadsTo 60 = .ok (.ireturn, 1) := by decide +kernel
set_option maxRecDepth 20000 in
theorem ggX9_atLeast_X9_membersOf : GoodIn wsX9_atLeast wsX9_membersOf := goodIn_r _ [6, 1, 10, 11, 12, 13, 14, 15, 16, 17, 18, 19, 20, 21, 22, 23, 24, 25, 26] (by decide +kernel) (by decide +kernel)
set_option maxRecDepth 20000 in
theorem gX9_atLeast_X9_membersOf : GoodIn wsX9_atLeast (wsV RX9 77 RX9 yX9_membersOf wsX9_membersOf) := goodIn_app (goodIn_of _ (by decide +kernel)) ggX9_atLeast_X9_membersOf
set_option maxRecDepth 20000 in
theorem ggX9_atLeast_X9_sizeOf : GoodIn wsX9_atLeast wsX9_sizeOf := goodIn_r _ [9] (by decide +kernel) (by decide +kernel)
set_option maxRecDepth 20000 in
theorem gX9_atLeast_X9_sizeOf : GoodIn wsX9_atLeast (va_wsS RX9 85 yX9_sizeOf wsX9_sizeOf) := goodIn_app (goodIn_of _ (by decide +kernel)) ggX9_atLeast_X9_sizeOf
theorem dX9_atLeast_0 : decode cX9_atLeast 0 = .ok (.aload_n 0, 1) := by decide +kernel
theorem dX9_atLeast_1 : decode cX9_atLeast 1 = .ok (.aload_n 0, 1) := by decide +kernel
theorem dX9_atLeast_2 : decode cX9_atLeast 2 = .ok (.getfield 7, 3) := by decide +kernel
theorem dX9_atLeast_5 : decode cX9_atLeast 5 = .ok (.bipush 64, 2) := by decide +kernel
theorem dX9_atLeast_7 : decode cX9_atLeast 7 = .ok (.iload_n 1, 1) := by decide +kernel
theorem dX9_atLeast_8 : decode cX9_atLeast 8 = .ok (.invokevirtual 77, 3) := by decide +kernel
theorem dX9_atLeast_11 : decode cX9_atLeast 11 = .ok (.istore_n 3, 1) := by decide +kernel
theorem dX9_atLeast_12 : decode cX9_atLeast 12 = .ok (.iconst 0, 1) := by decide +kernel
theorem dX9_atLeast_13 : decode cX9_atLeast 13 = .ok (.istore 4, 2) := by decide +kernel
theorem dX9_atLeast_15 : decode cX9_atLeast 15 = .ok (.iconst 0, 1) := by decide +kernel
theorem dX9_atLeast_16 : decode cX9_atLeast 16 = .ok (.istore 5, 2) := by decide +kernel
theorem dX9_atLeast_18 : decode cX9_atLeast 18 = .ok (.iload 5, 2) := by decide +kernel
theorem dX9_atLeast_20 : decode cX9_atLeast 20 = .ok (.aload_n 0, 1) := by decide +kernel
theorem dX9_atLeast_21 : decode cX9_atLeast 21 = .ok (.getfield 7, 3) := by decide +kernel
theorem dX9_atLeast_24 : decode cX9_atLeast 24 = .ok (.iconst 0, 1) := by decide +kernel
theorem dX9_atLeast_25 : decode cX9_atLeast 25 = .ok (.iaload, 1) := by decide +kernel
theorem dX9_atLeast_26 : decode cX9_atLeast 26 = .ok (.if_icmp .ge 41, 3) := by decide +kernel
theorem dX9_atLeast_29 : decode cX9_atLeast 29 = .ok (.iload 4, 2) := by decide +kernel
theorem dX9_atLeast_31 : decode cX9_atLeast 31 = .ok (.aload_n 0, 1) := by decide +kernel
theorem dX9_atLeast_32 : decode cX9_atLeast 32 = .ok (.getfield 7, 3) := by decide +kernel
theorem dX9_atLeast_35 : decode cX9_atLeast 35 = .ok (.bipush 16, 2) := by decide +kernel
theorem dX9_atLeast_37 : decode cX9_atLeast 37 = .ok (.iload 5, 2) := by decide +kernel
theorem dX9_atLeast_39 : decode cX9_atLeast 39 = .ok (.iadd, 1) := by decide +kernel
theorem dX9_atLeast_40 : decode cX9_atLeast 40 = .ok (.iaload, 1) := by decide +kernel
theorem dX9_atLeast_41 : decode cX9_atLeast 41 = .ok (.iload_n 3, 1) := by decide +kernel
theorem dX9_atLeast_42 : decode cX9_atLeast 42 = .ok (.iand, 1) := by decide +kernel
theorem dX9_atLeast_43 : decode cX9_atLeast 43 = .ok (.invokestatic 85, 3) := by decide +kernel
theorem dX9_atLeast_46 : decode cX9_atLeast 46 = .ok (.iload_n 2, 1) := by decide +kernel
theorem dX9_atLeast_47 : decode cX9_atLeast 47 = .ok (.if_icmp .lt 10, 3) := by decide +kernel
theorem dX9_atLeast_50 : decode cX9_atLeast 50 = .ok (.iconst 1, 1) := by decide +kernel
theorem dX9_atLeast_51 : decode cX9_atLeast 51 = .ok (.iload 5, 2) := by decide +kernel
theorem dX9_atLeast_53 : decode cX9_atLeast 53 = .ok (.ishl, 1) := by decide +kernel
theorem dX9_atLeast_54 : decode cX9_atLeast 54 = .ok (.goto 4, 3) := by decide +kernel
theorem dX9_atLeast_57 : decode cX9_atLeast 57 = .ok (.iconst 0, 1) := by decide +kernel
theorem dX9_atLeast_58 : decode cX9_atLeast 58 = .ok (.ior, 1) := by decide +kernel
theorem dX9_atLeast_59 : decode cX9_atLeast 59 = .ok (.istore 4, 2) := by decide +kernel
theorem dX9_atLeast_61 : decode cX9_atLeast 61 = .ok (.iinc 5 1, 3) := by decide +kernel
theorem dX9_atLeast_64 : decode cX9_atLeast 64 = .ok (.goto (-46), 3) := by decide +kernel
theorem dX9_atLeast_67 : decode cX9_atLeast 67 = .ok (.iload 4, 2) := by decide +kernel
theorem dX9_atLeast_69 : decode cX9_atLeast 69 = .ok (.ireturn, 1) := by decide +kernel
set_option maxRecDepth 20000 in
theorem ggX9_askedBy_X9_classes : GoodIn wsX9_askedBy wsX9_classes := goodIn_r _ [8, 1, 16, 17, 18, 19, 20, 21, 22, 23, 24, 25, 26, 27, 28, 29, 30, 31, 32] (by decide +kernel) (by decide +kernel)
set_option maxRecDepth 20000 in
theorem gX9_askedBy_X9_classes : GoodIn wsX9_askedBy (wsV RX9 73 RX9 yX9_classes wsX9_classes) := goodIn_app (goodIn_of _ (by decide +kernel)) ggX9_askedBy_X9_classes
set_option maxRecDepth 20000 in
theorem ggX9_askedBy_X9_isItem : GoodIn wsX9_askedBy wsX9_isItem := goodIn_r _ [12, 1, 13, 14, 7, 15, 16, 17, 18, 19, 20, 21, 22, 23, 24, 25, 26, 27, 28, 29, 30, 31, 32] (by decide +kernel) (by decide +kernel)
set_option maxRecDepth 20000 in
theorem gX9_askedBy_X9_isItem : GoodIn wsX9_askedBy (wsV RX9 89 RX9 yX9_isItem wsX9_isItem) := goodIn_app (goodIn_of _ (by decide +kernel)) ggX9_askedBy_X9_isItem
set_option maxRecDepth 20000 in
theorem ggX9_askedBy_X9_in : GoodIn wsX9_askedBy wsX9_in := goodIn_r _ [15] (by decide +kernel) (by decide +kernel)
set_option maxRecDepth 20000 in
theorem gX9_askedBy_X9_in : GoodIn wsX9_askedBy (va_wsS RX9 57 yX9_in wsX9_in) := goodIn_app (goodIn_of _ (by decide +kernel)) ggX9_askedBy_X9_in
theorem dX9_askedBy_0 : decode cX9_askedBy 0 = .ok (.aload_n 0, 1) := by decide +kernel
theorem dX9_askedBy_1 : decode cX9_askedBy 1 = .ok (.aload_n 0, 1) := by decide +kernel
theorem dX9_askedBy_2 : decode cX9_askedBy 2 = .ok (.getfield 7, 3) := by decide +kernel
theorem dX9_askedBy_5 : decode cX9_askedBy 5 = .ok (.bipush 64, 2) := by decide +kernel
theorem dX9_askedBy_7 : decode cX9_askedBy 7 = .ok (.invokevirtual 73, 3) := by decide +kernel
theorem dX9_askedBy_10 : decode cX9_askedBy 10 = .ok (.istore 4, 2) := by decide +kernel
theorem dX9_askedBy_12 : decode cX9_askedBy 12 = .ok (.iload_n 1, 1) := by decide +kernel
theorem dX9_askedBy_13 : decode cX9_askedBy 13 = .ok (.tableswitch 142 0 5 #[39, 39, 54, 71, 106, 108], 39) := by decide +kernel
theorem dX9_askedBy_52 : decode cX9_askedBy 52 = .ok (.aload_n 0, 1) := by decide +kernel
theorem dX9_askedBy_53 : decode cX9_askedBy 53 = .ok (.iload_n 2, 1) := by decide +kernel
theorem dX9_askedBy_54 : decode cX9_askedBy 54 = .ok (.invokevirtual 89, 3) := by decide +kernel
theorem dX9_askedBy_57 : decode cX9_askedBy 57 = .ok (.ifCond .eq 7, 3) := by decide +kernel
theorem dX9_askedBy_60 : decode cX9_askedBy 60 = .ok (.iconst 0, 1) := by decide +kernel
theorem dX9_askedBy_61 : decode cX9_askedBy 61 = .ok (.goto 5, 3) := by decide +kernel
theorem dX9_askedBy_64 : decode cX9_askedBy 64 = .ok (.ldc 93, 2) := by decide +kernel
theorem dX9_askedBy_66 : decode cX9_askedBy 66 = .ok (.ireturn, 1) := by decide +kernel
theorem dX9_askedBy_67 : decode cX9_askedBy 67 = .ok (.iload_n 2, 1) := by decide +kernel
theorem dX9_askedBy_68 : decode cX9_askedBy 68 = .ok (.iconst 0, 1) := by decide +kernel
theorem dX9_askedBy_69 : decode cX9_askedBy 69 = .ok (.bipush 7, 2) := by decide +kernel
theorem dX9_askedBy_71 : decode cX9_askedBy 71 = .ok (.invokestatic 57, 3) := by decide +kernel
theorem dX9_askedBy_74 : decode cX9_askedBy 74 = .ok (.ifCond .eq 7, 3) := by decide +kernel
theorem dX9_askedBy_77 : decode cX9_askedBy 77 = .ok (.iconst 0, 1) := by decide +kernel
theorem dX9_askedBy_78 : decode cX9_askedBy 78 = .ok (.goto 5, 3) := by decide +kernel
theorem dX9_askedBy_81 : decode cX9_askedBy 81 = .ok (.ldc 93, 2) := by decide +kernel
theorem dX9_askedBy_83 : decode cX9_askedBy 83 = .ok (.ireturn, 1) := by decide +kernel
theorem dX9_askedBy_84 : decode cX9_askedBy 84 = .ok (.iload_n 2, 1) := by decide +kernel
theorem dX9_askedBy_85 : decode cX9_askedBy 85 = .ok (.iconst 0, 1) := by decide +kernel
theorem dX9_askedBy_86 : decode cX9_askedBy 86 = .ok (.aload_n 0, 1) := by decide +kernel
theorem dX9_askedBy_87 : decode cX9_askedBy 87 = .ok (.getfield 7, 3) := by decide +kernel
theorem dX9_askedBy_90 : decode cX9_askedBy 90 = .ok (.iconst 1, 1) := by decide +kernel
theorem dX9_askedBy_91 : decode cX9_askedBy 91 = .ok (.iaload, 1) := by decide +kernel
theorem dX9_askedBy_92 : decode cX9_askedBy 92 = .ok (.iconst 1, 1) := by decide +kernel
theorem dX9_askedBy_93 : decode cX9_askedBy 93 = .ok (.isub, 1) := by decide +kernel
theorem dX9_askedBy_94 : decode cX9_askedBy 94 = .ok (.invokestatic 57, 3) := by decide +kernel
theorem dX9_askedBy_97 : decode cX9_askedBy 97 = .ok (.ifCond .eq 19, 3) := by decide +kernel
theorem dX9_askedBy_100 : decode cX9_askedBy 100 = .ok (.iload_n 3, 1) := by decide +kernel
theorem dX9_askedBy_101 : decode cX9_askedBy 101 = .ok (.iconst 0, 1) := by decide +kernel
theorem dX9_askedBy_102 : decode cX9_askedBy 102 = .ok (.iload 4, 2) := by decide +kernel
theorem dX9_askedBy_104 : decode cX9_askedBy 104 = .ok (.iconst 1, 1) := by decide +kernel
theorem dX9_askedBy_105 : decode cX9_askedBy 105 = .ok (.isub, 1) := by decide +kernel
theorem dX9_askedBy_106 : decode cX9_askedBy 106 = .ok (.invokestatic 57, 3) := by decide +kernel
theorem dX9_askedBy_109 : decode cX9_askedBy 109 = .ok (.ifCond .eq 7, 3) := by decide +kernel
theorem dX9_askedBy_112 : decode cX9_askedBy 112 = .ok (.iconst 0, 1) := by decide +kernel
theorem dX9_askedBy_113 : decode cX9_askedBy 113 = .ok (.goto 5, 3) := by decide +kernel
theorem dX9_askedBy_116 : decode cX9_askedBy 116 = .ok (.ldc 93, 2) := by decide +kernel
theorem dX9_askedBy_118 : decode cX9_askedBy 118 = .ok (.ireturn, 1) := by decide +kernel
theorem dX9_askedBy_119 : decode cX9_askedBy 119 = .ok (.iconst 0, 1) := by decide +kernel
theorem dX9_askedBy_120 : decode cX9_askedBy 120 = .ok (.ireturn, 1) := by decide +kernel
theorem dX9_askedBy_121 : decode cX9_askedBy 121 = .ok (.iload_n 2, 1) := by decide +kernel
theorem dX9_askedBy_122 : decode cX9_askedBy 122 = .ok (.iconst 0, 1) := by decide +kernel
theorem dX9_askedBy_123 : decode cX9_askedBy 123 = .ok (.iload 4, 2) := by decide +kernel
theorem dX9_askedBy_125 : decode cX9_askedBy 125 = .ok (.iconst 1, 1) := by decide +kernel
theorem dX9_askedBy_126 : decode cX9_askedBy 126 = .ok (.isub, 1) := by decide +kernel
theorem dX9_askedBy_127 : decode cX9_askedBy 127 = .ok (.invokestatic 57, 3) := by decide +kernel
theorem dX9_askedBy_130 : decode cX9_askedBy 130 = .ok (.ifCond .ne 8, 3) := by decide +kernel
theorem dX9_askedBy_133 : decode cX9_askedBy 133 = .ok (.ldc 93, 2) := by decide +kernel
theorem dX9_askedBy_135 : decode cX9_askedBy 135 = .ok (.goto 19, 3) := by decide +kernel
theorem dX9_askedBy_138 : decode cX9_askedBy 138 = .ok (.iload_n 3, 1) := by decide +kernel
theorem dX9_askedBy_139 : decode cX9_askedBy 139 = .ok (.iconst 0, 1) := by decide +kernel
theorem dX9_askedBy_140 : decode cX9_askedBy 140 = .ok (.bipush 12, 2) := by decide +kernel
theorem dX9_askedBy_142 : decode cX9_askedBy 142 = .ok (.invokestatic 57, 3) := by decide +kernel
theorem dX9_askedBy_145 : decode cX9_askedBy 145 = .ok (.ifCond .eq 7, 3) := by decide +kernel
theorem dX9_askedBy_148 : decode cX9_askedBy 148 = .ok (.iconst 0, 1) := by decide +kernel
theorem dX9_askedBy_149 : decode cX9_askedBy 149 = .ok (.goto 5, 3) := by decide +kernel
theorem dX9_askedBy_152 : decode cX9_askedBy 152 = .ok (.ldc 94, 2) := by decide +kernel
theorem dX9_askedBy_154 : decode cX9_askedBy 154 = .ok (.ireturn, 1) := by decide +kernel
theorem dX9_askedBy_155 : decode cX9_askedBy 155 = .ok (.ldc 94, 2) := by decide +kernel
theorem dX9_askedBy_157 : decode cX9_askedBy 157 = .ok (.ireturn, 1) := by decide +kernel
set_option maxRecDepth 20000 in
theorem ggX9_setOf_X9_columnSet : GoodIn wsX9_setOf wsX9_columnSet := goodIn_r _ [6, 1, 7, 8, 5, 9, 25, 26, 27, 28, 29, 30, 31, 32, 33, 34, 35, 36, 37, 38, 39, 40, 41] (by decide +kernel) (by decide +kernel)
set_option maxRecDepth 20000 in
theorem gX9_setOf_X9_columnSet : GoodIn wsX9_setOf (wsV RX9 95 RX9 yX9_columnSet wsX9_columnSet) := goodIn_app (goodIn_of _ (by decide +kernel)) ggX9_setOf_X9_columnSet
set_option maxRecDepth 20000 in
theorem ggX9_setOf_X9_leadsTo : GoodIn wsX9_setOf wsX9_leadsTo := goodIn_r _ [13, 1, 25, 26, 27, 28, 29, 30, 31, 32, 33, 34, 35, 36, 37, 38, 39, 40, 41] (by decide +kernel) (by decide +kernel)
set_option maxRecDepth 20000 in
theorem gX9_setOf_X9_leadsTo : GoodIn wsX9_setOf (wsV RX9 98 RX9 yX9_leadsTo wsX9_leadsTo) := goodIn_app (goodIn_of _ (by decide +kernel)) ggX9_setOf_X9_leadsTo
set_option maxRecDepth 20000 in
theorem ggX9_setOf_X9_atLeast : GoodIn wsX9_setOf wsX9_atLeast := goodIn_r _ [17, 1, 18, 19, 20, 5, 21, 22, 23, 24, 25, 26, 27, 28, 29, 30, 31, 32, 33, 34, 35, 36, 37, 38, 39, 40, 41] (by decide +kernel) (by decide +kernel)
set_option maxRecDepth 20000 in
theorem gX9_setOf_X9_atLeast : GoodIn wsX9_setOf (wsV RX9 102 RX9 yX9_atLeast wsX9_atLeast) := goodIn_app (goodIn_of _ (by decide +kernel)) ggX9_setOf_X9_atLeast
theorem dX9_setOf_0 : decode cX9_setOf 0 = .ok (.iload_n 1, 1) := by decide +kernel
theorem dX9_setOf_1 : decode cX9_setOf 1 = .ok (.tableswitch 79 0 4 #[35, 45, 59, 65, 72], 35) := by decide +kernel
end
section
theorem dX9_setOf_36 : decode cX9_setOf 36 = .ok (.aload_n 0, 1) := by decide +kernel
theorem dX9_setOf_37 : decode cX9_setOf 37 = .ok (.getfield 7, 3) := by decide +kernel
theorem dX9_setOf_40 : decode cX9_setOf 40 = .ok (.bipush 16, 2) := by decide +kernel
theorem dX9_setOf_42 : decode cX9_setOf 42 = .ok (.iload_n 2, 1) := by decide +kernel
theorem dX9_setOf_43 : decode cX9_setOf 43 = .ok (.iadd, 1) := by decide +kernel
theorem dX9_setOf_44 : decode cX9_setOf 44 = .ok (.iaload, 1) := by decide +kernel
theorem dX9_setOf_45 : decode cX9_setOf 45 = .ok (.ireturn, 1) := by decide +kernel
theorem dX9_setOf_46 : decode cX9_setOf 46 = .ok (.aload_n 0, 1) := by decide +kernel
theorem dX9_setOf_47 : decode cX9_setOf 47 = .ok (.getfield 7, 3) := by decide +kernel
theorem dX9_setOf_50 : decode cX9_setOf 50 = .ok (.bipush 16, 2) := by decide +kernel
theorem dX9_setOf_52 : decode cX9_setOf 52 = .ok (.iload_n 2, 1) := by decide +kernel
theorem dX9_setOf_53 : decode cX9_setOf 53 = .ok (.iadd, 1) := by decide +kernel
theorem dX9_setOf_54 : decode cX9_setOf 54 = .ok (.iaload, 1) := by decide +kernel
theorem dX9_setOf_55 : decode cX9_setOf 55 = .ok (.iconst 1, 1) := by decide +kernel
theorem dX9_setOf_56 : decode cX9_setOf 56 = .ok (.iload_n 2, 1) := by decide +kernel
theorem dX9_setOf_57 : decode cX9_setOf 57 = .ok (.ishl, 1) := by decide +kernel
theorem dX9_setOf_58 : decode cX9_setOf 58 = .ok (.ior, 1) := by decide +kernel
theorem dX9_setOf_59 : decode cX9_setOf 59 = .ok (.ireturn, 1) := by decide +kernel
theorem dX9_setOf_60 : decode cX9_setOf 60 = .ok (.aload_n 0, 1) := by decide +kernel
theorem dX9_setOf_61 : decode cX9_setOf 61 = .ok (.iload_n 2, 1) := by decide +kernel
theorem dX9_setOf_62 : decode cX9_setOf 62 = .ok (.invokevirtual 95, 3) := by decide +kernel
theorem dX9_setOf_65 : decode cX9_setOf 65 = .ok (.ireturn, 1) := by decide +kernel
theorem dX9_setOf_66 : decode cX9_setOf 66 = .ok (.aload_n 0, 1) := by decide +kernel
theorem dX9_setOf_67 : decode cX9_setOf 67 = .ok (.iload_n 2, 1) := by decide +kernel
theorem dX9_setOf_68 : decode cX9_setOf 68 = .ok (.iload_n 3, 1) := by decide +kernel
theorem dX9_setOf_69 : decode cX9_setOf 69 = .ok (.invokevirtual 98, 3) := by decide +kernel
theorem dX9_setOf_72 : decode cX9_setOf 72 = .ok (.ireturn, 1) := by decide +kernel
theorem dX9_setOf_73 : decode cX9_setOf 73 = .ok (.aload_n 0, 1) := by decide +kernel
theorem dX9_setOf_74 : decode cX9_setOf 74 = .ok (.getfield 7, 3) := by decide +kernel
theorem dX9_setOf_77 : decode cX9_setOf 77 = .ok (.iconst 2, 1) := by decide +kernel
theorem dX9_setOf_78 : decode cX9_setOf 78 = .ok (.iaload, 1) := by decide +kernel
theorem dX9_setOf_79 : decode cX9_setOf 79 = .ok (.ireturn, 1) := by decide +kernel
theorem dX9_setOf_80 : decode cX9_setOf 80 = .ok (.aload_n 0, 1) := by decide +kernel
theorem dX9_setOf_81 : decode cX9_setOf 81 = .ok (.iload_n 2, 1) := by decide +kernel
theorem dX9_setOf_82 : decode cX9_setOf 82 = .ok (.iload_n 3, 1) := by decide +kernel
theorem dX9_setOf_83 : decode cX9_setOf 83 = .ok (.invokevirtual 102, 3) := by decide +kernel
theorem dX9_setOf_86 : decode cX9_setOf 86 = .ok (.ireturn, 1) := by decide +kernel
set_option maxRecDepth 20000 in
theorem ggX9_setBy_X9_askedBy : GoodIn wsX9_setBy wsX9_askedBy := goodIn_r _ [5, 6, 7, 8, 9, 10, 11, 4, 12, 13, 14, 15, 16, 17, 18, 19, 46, 47, 48, 49, 50, 51, 52, 53, 54, 55, 56, 57, 58, 59, 60, 61, 62] (by decide +kernel) (by decide +kernel)
set_option maxRecDepth 20000 in
theorem gX9_setBy_X9_askedBy : GoodIn wsX9_setBy (wsV RX9 105 RX9 yX9_askedBy wsX9_askedBy) := goodIn_app (goodIn_of _ (by decide +kernel)) ggX9_setBy_X9_askedBy
set_option maxRecDepth 20000 in
theorem ggX9_setBy_X9_setOf : GoodIn wsX9_setBy wsX9_setOf := goodIn_r _ [23, 6, 24, 25, 26, 4, 27, 28, 29, 30, 31, 32, 33, 34, 35, 36, 37, 38, 39, 40, 41, 42, 43, 44, 45, 46, 47, 48, 49, 50, 51, 52, 53, 54, 55, 56, 57, 58, 59, 60, 61, 62] (by decide +kernel) (by decide +kernel)
set_option maxRecDepth 20000 in
theorem gX9_setBy_X9_setOf : GoodIn wsX9_setBy (wsV RX9 109 RX9 yX9_setOf wsX9_setOf) := goodIn_app (goodIn_of _ (by decide +kernel)) ggX9_setBy_X9_setOf
theorem dX9_setBy_0 : decode cX9_setBy 0 = .ok (.aload_n 0, 1) := by decide +kernel
theorem dX9_setBy_1 : decode cX9_setBy 1 = .ok (.iload_n 1, 1) := by decide +kernel
theorem dX9_setBy_2 : decode cX9_setBy 2 = .ok (.iload_n 2, 1) := by decide +kernel
theorem dX9_setBy_3 : decode cX9_setBy 3 = .ok (.iload_n 3, 1) := by decide +kernel
theorem dX9_setBy_4 : decode cX9_setBy 4 = .ok (.invokevirtual 105, 3) := by decide +kernel
theorem dX9_setBy_7 : decode cX9_setBy 7 = .ok (.istore 4, 2) := by decide +kernel
theorem dX9_setBy_9 : decode cX9_setBy 9 = .ok (.iload 4, 2) := by decide +kernel
theorem dX9_setBy_11 : decode cX9_setBy 11 = .ok (.ifCond .eq 8, 3) := by decide +kernel
theorem dX9_setBy_14 : decode cX9_setBy 14 = .ok (.iload 4, 2) := by decide +kernel
theorem dX9_setBy_16 : decode cX9_setBy 16 = .ok (.goto 10, 3) := by decide +kernel
theorem dX9_setBy_19 : decode cX9_setBy 19 = .ok (.aload_n 0, 1) := by decide +kernel
theorem dX9_setBy_20 : decode cX9_setBy 20 = .ok (.iload_n 1, 1) := by decide +kernel
theorem dX9_setBy_21 : decode cX9_setBy 21 = .ok (.iload_n 2, 1) := by decide +kernel
theorem dX9_setBy_22 : decode cX9_setBy 22 = .ok (.iload_n 3, 1) := by decide +kernel
theorem dX9_setBy_23 : decode cX9_setBy 23 = .ok (.invokevirtual 109, 3) := by decide +kernel
theorem dX9_setBy_26 : decode cX9_setBy 26 = .ok (.ireturn, 1) := by decide +kernel
set_option maxRecDepth 20000 in
theorem ggX9_isOneMore_X9_sizeOf : GoodIn wsX9_isOneMore wsX9_sizeOf := goodIn_r _ [6] (by decide +kernel) (by decide +kernel)
set_option maxRecDepth 20000 in
theorem gX9_isOneMore_X9_sizeOf : GoodIn wsX9_isOneMore (va_wsS RX9 85 yX9_sizeOf wsX9_sizeOf) := goodIn_app (goodIn_of _ (by decide +kernel)) ggX9_isOneMore_X9_sizeOf
theorem dX9_isOneMore_0 : decode cX9_isOneMore 0 = .ok (.iconst 0, 1) := by decide +kernel
theorem dX9_isOneMore_1 : decode cX9_isOneMore 1 = .ok (.istore 6, 2) := by decide +kernel
theorem dX9_isOneMore_3 : decode cX9_isOneMore 3 = .ok (.iload_n 3, 1) := by decide +kernel
theorem dX9_isOneMore_4 : decode cX9_isOneMore 4 = .ok (.iconst 3, 1) := by decide +kernel
theorem dX9_isOneMore_5 : decode cX9_isOneMore 5 = .ok (.if_icmp .ne 80, 3) := by decide +kernel
theorem dX9_isOneMore_8 : decode cX9_isOneMore 8 = .ok (.iconst 0, 1) := by decide +kernel
theorem dX9_isOneMore_9 : decode cX9_isOneMore 9 = .ok (.istore 7, 2) := by decide +kernel
theorem dX9_isOneMore_11 : decode cX9_isOneMore 11 = .ok (.iload 7, 2) := by decide +kernel
theorem dX9_isOneMore_13 : decode cX9_isOneMore 13 = .ok (.aload_n 0, 1) := by decide +kernel
theorem dX9_isOneMore_14 : decode cX9_isOneMore 14 = .ok (.getfield 7, 3) := by decide +kernel
theorem dX9_isOneMore_17 : decode cX9_isOneMore 17 = .ok (.iconst 1, 1) := by decide +kernel
theorem dX9_isOneMore_18 : decode cX9_isOneMore 18 = .ok (.iaload, 1) := by decide +kernel
theorem dX9_isOneMore_19 : decode cX9_isOneMore 19 = .ok (.if_icmp .ge 63, 3) := by decide +kernel
theorem dX9_isOneMore_22 : decode cX9_isOneMore 22 = .ok (.iload 6, 2) := by decide +kernel
theorem dX9_isOneMore_24 : decode cX9_isOneMore 24 = .ok (.ifCond .ne 45, 3) := by decide +kernel
theorem dX9_isOneMore_27 : decode cX9_isOneMore 27 = .ok (.aload_n 0, 1) := by decide +kernel
theorem dX9_isOneMore_28 : decode cX9_isOneMore 28 = .ok (.getfield 32, 3) := by decide +kernel
theorem dX9_isOneMore_31 : decode cX9_isOneMore 31 = .ok (.bipush 12, 2) := by decide +kernel
theorem dX9_isOneMore_33 : decode cX9_isOneMore 33 = .ok (.aload_n 0, 1) := by decide +kernel
theorem dX9_isOneMore_34 : decode cX9_isOneMore 34 = .ok (.getfield 7, 3) := by decide +kernel
theorem dX9_isOneMore_37 : decode cX9_isOneMore 37 = .ok (.bipush 28, 2) := by decide +kernel
theorem dX9_isOneMore_39 : decode cX9_isOneMore 39 = .ok (.iconst 3, 1) := by decide +kernel
theorem dX9_isOneMore_40 : decode cX9_isOneMore 40 = .ok (.iload 4, 2) := by decide +kernel
theorem dX9_isOneMore_42 : decode cX9_isOneMore 42 = .ok (.imul, 1) := by decide +kernel
theorem dX9_isOneMore_43 : decode cX9_isOneMore 43 = .ok (.iadd, 1) := by decide +kernel
theorem dX9_isOneMore_44 : decode cX9_isOneMore 44 = .ok (.iload 7, 2) := by decide +kernel
theorem dX9_isOneMore_46 : decode cX9_isOneMore 46 = .ok (.iadd, 1) := by decide +kernel
theorem dX9_isOneMore_47 : decode cX9_isOneMore 47 = .ok (.iaload, 1) := by decide +kernel
theorem dX9_isOneMore_48 : decode cX9_isOneMore 48 = .ok (.imul, 1) := by decide +kernel
theorem dX9_isOneMore_49 : decode cX9_isOneMore 49 = .ok (.aload_n 0, 1) := by decide +kernel
theorem dX9_isOneMore_50 : decode cX9_isOneMore 50 = .ok (.getfield 7, 3) := by decide +kernel
theorem dX9_isOneMore_53 : decode cX9_isOneMore 53 = .ok (.bipush 28, 2) := by decide +kernel
theorem dX9_isOneMore_55 : decode cX9_isOneMore 55 = .ok (.iconst 3, 1) := by decide +kernel
theorem dX9_isOneMore_56 : decode cX9_isOneMore 56 = .ok (.iload 5, 2) := by decide +kernel
theorem dX9_isOneMore_58 : decode cX9_isOneMore 58 = .ok (.imul, 1) := by decide +kernel
theorem dX9_isOneMore_59 : decode cX9_isOneMore 59 = .ok (.iadd, 1) := by decide +kernel
theorem dX9_isOneMore_60 : decode cX9_isOneMore 60 = .ok (.iload 7, 2) := by decide +kernel
theorem dX9_isOneMore_62 : decode cX9_isOneMore 62 = .ok (.iadd, 1) := by decide +kernel
theorem dX9_isOneMore_63 : decode cX9_isOneMore 63 = .ok (.iaload, 1) := by decide +kernel
theorem dX9_isOneMore_64 : decode cX9_isOneMore 64 = .ok (.iadd, 1) := by decide +kernel
theorem dX9_isOneMore_65 : decode cX9_isOneMore 65 = .ok (.baload, 1) := by decide +kernel
theorem dX9_isOneMore_66 : decode cX9_isOneMore 66 = .ok (.ifCond .eq 7, 3) := by decide +kernel
theorem dX9_isOneMore_69 : decode cX9_isOneMore 69 = .ok (.iconst 1, 1) := by decide +kernel
theorem dX9_isOneMore_70 : decode cX9_isOneMore 70 = .ok (.goto 4, 3) := by decide +kernel
theorem dX9_isOneMore_73 : decode cX9_isOneMore 73 = .ok (.iconst 0, 1) := by decide +kernel
theorem dX9_isOneMore_74 : decode cX9_isOneMore 74 = .ok (.istore 6, 2) := by decide +kernel
theorem dX9_isOneMore_76 : decode cX9_isOneMore 76 = .ok (.iinc 7 1, 3) := by decide +kernel
theorem dX9_isOneMore_79 : decode cX9_isOneMore 79 = .ok (.goto (-68), 3) := by decide +kernel
theorem dX9_isOneMore_82 : decode cX9_isOneMore 82 = .ok (.iload 6, 2) := by decide +kernel
theorem dX9_isOneMore_84 : decode cX9_isOneMore 84 = .ok (.ireturn, 1) := by decide +kernel
theorem dX9_isOneMore_85 : decode cX9_isOneMore 85 = .ok (.iconst 0, 1) := by decide +kernel
theorem dX9_isOneMore_86 : decode cX9_isOneMore 86 = .ok (.istore 7, 2) := by decide +kernel
theorem dX9_isOneMore_88 : decode cX9_isOneMore 88 = .ok (.iload 7, 2) := by decide +kernel
theorem dX9_isOneMore_90 : decode cX9_isOneMore 90 = .ok (.aload_n 0, 1) := by decide +kernel
theorem dX9_isOneMore_91 : decode cX9_isOneMore 91 = .ok (.getfield 7, 3) := by decide +kernel
theorem dX9_isOneMore_94 : decode cX9_isOneMore 94 = .ok (.iconst 0, 1) := by decide +kernel
theorem dX9_isOneMore_95 : decode cX9_isOneMore 95 = .ok (.iaload, 1) := by decide +kernel
theorem dX9_isOneMore_96 : decode cX9_isOneMore 96 = .ok (.if_icmp .ge 108, 3) := by decide +kernel
theorem dX9_isOneMore_99 : decode cX9_isOneMore 99 = .ok (.iconst 0, 1) := by decide +kernel
theorem dX9_isOneMore_100 : decode cX9_isOneMore 100 = .ok (.istore 8, 2) := by decide +kernel
theorem dX9_isOneMore_102 : decode cX9_isOneMore 102 = .ok (.iconst 0, 1) := by decide +kernel
theorem dX9_isOneMore_103 : decode cX9_isOneMore 103 = .ok (.istore 9, 2) := by decide +kernel
theorem dX9_isOneMore_105 : decode cX9_isOneMore 105 = .ok (.iload 9, 2) := by decide +kernel
theorem dX9_isOneMore_107 : decode cX9_isOneMore 107 = .ok (.aload_n 0, 1) := by decide +kernel
theorem dX9_isOneMore_108 : decode cX9_isOneMore 108 = .ok (.getfield 7, 3) := by decide +kernel
theorem dX9_isOneMore_111 : decode cX9_isOneMore 111 = .ok (.iconst 0, 1) := by decide +kernel
theorem dX9_isOneMore_112 : decode cX9_isOneMore 112 = .ok (.iaload, 1) := by decide +kernel
theorem dX9_isOneMore_113 : decode cX9_isOneMore 113 = .ok (.if_icmp .ge 38, 3) := by decide +kernel
theorem dX9_isOneMore_116 : decode cX9_isOneMore 116 = .ok (.iload 8, 2) := by decide +kernel
theorem dX9_isOneMore_118 : decode cX9_isOneMore 118 = .ok (.aload_n 0, 1) := by decide +kernel
theorem dX9_isOneMore_119 : decode cX9_isOneMore 119 = .ok (.getfield 32, 3) := by decide +kernel
theorem dX9_isOneMore_122 : decode cX9_isOneMore 122 = .ok (.bipush 12, 2) := by decide +kernel
theorem dX9_isOneMore_124 : decode cX9_isOneMore 124 = .ok (.iload 7, 2) := by decide +kernel
theorem dX9_isOneMore_126 : decode cX9_isOneMore 126 = .ok (.imul, 1) := by decide +kernel
theorem dX9_isOneMore_127 : decode cX9_isOneMore 127 = .ok (.iload 9, 2) := by decide +kernel
theorem dX9_isOneMore_129 : decode cX9_isOneMore 129 = .ok (.iadd, 1) := by decide +kernel
theorem dX9_isOneMore_130 : decode cX9_isOneMore 130 = .ok (.baload, 1) := by decide +kernel
theorem dX9_isOneMore_131 : decode cX9_isOneMore 131 = .ok (.ifCond .eq 7, 3) := by decide +kernel
theorem dX9_isOneMore_134 : decode cX9_isOneMore 134 = .ok (.iconst 0, 1) := by decide +kernel
theorem dX9_isOneMore_135 : decode cX9_isOneMore 135 = .ok (.goto 7, 3) := by decide +kernel
theorem dX9_isOneMore_138 : decode cX9_isOneMore 138 = .ok (.iconst 1, 1) := by decide +kernel
theorem dX9_isOneMore_139 : decode cX9_isOneMore 139 = .ok (.iload 9, 2) := by decide +kernel
theorem dX9_isOneMore_141 : decode cX9_isOneMore 141 = .ok (.ishl, 1) := by decide +kernel
theorem dX9_isOneMore_142 : decode cX9_isOneMore 142 = .ok (.ior, 1) := by decide +kernel
theorem dX9_isOneMore_143 : decode cX9_isOneMore 143 = .ok (.istore 8, 2) := by decide +kernel
theorem dX9_isOneMore_145 : decode cX9_isOneMore 145 = .ok (.iinc 9 1, 3) := by decide +kernel
theorem dX9_isOneMore_148 : decode cX9_isOneMore 148 = .ok (.goto (-43), 3) := by decide +kernel
theorem dX9_isOneMore_151 : decode cX9_isOneMore 151 = .ok (.iload 6, 2) := by decide +kernel
theorem dX9_isOneMore_153 : decode cX9_isOneMore 153 = .ok (.ifCond .ne 38, 3) := by decide +kernel
theorem dX9_isOneMore_156 : decode cX9_isOneMore 156 = .ok (.aload_n 0, 1) := by decide +kernel
theorem dX9_isOneMore_157 : decode cX9_isOneMore 157 = .ok (.getfield 7, 3) := by decide +kernel
theorem dX9_isOneMore_160 : decode cX9_isOneMore 160 = .ok (.bipush 16, 2) := by decide +kernel
theorem dX9_isOneMore_162 : decode cX9_isOneMore 162 = .ok (.iload 4, 2) := by decide +kernel
theorem dX9_isOneMore_164 : decode cX9_isOneMore 164 = .ok (.iadd, 1) := by decide +kernel
theorem dX9_isOneMore_165 : decode cX9_isOneMore 165 = .ok (.iaload, 1) := by decide +kernel
theorem dX9_isOneMore_166 : decode cX9_isOneMore 166 = .ok (.iload 8, 2) := by decide +kernel
theorem dX9_isOneMore_168 : decode cX9_isOneMore 168 = .ok (.iand, 1) := by decide +kernel
theorem dX9_isOneMore_169 : decode cX9_isOneMore 169 = .ok (.invokestatic 85, 3) := by decide +kernel
theorem dX9_isOneMore_172 : decode cX9_isOneMore 172 = .ok (.aload_n 0, 1) := by decide +kernel
theorem dX9_isOneMore_173 : decode cX9_isOneMore 173 = .ok (.getfield 7, 3) := by decide +kernel
theorem dX9_isOneMore_176 : decode cX9_isOneMore 176 = .ok (.bipush 16, 2) := by decide +kernel
theorem dX9_isOneMore_178 : decode cX9_isOneMore 178 = .ok (.iload 5, 2) := by decide +kernel
theorem dX9_isOneMore_180 : decode cX9_isOneMore 180 = .ok (.iadd, 1) := by decide +kernel
theorem dX9_isOneMore_181 : decode cX9_isOneMore 181 = .ok (.iaload, 1) := by decide +kernel
theorem dX9_isOneMore_182 : decode cX9_isOneMore 182 = .ok (.iload 8, 2) := by decide +kernel
theorem dX9_isOneMore_184 : decode cX9_isOneMore 184 = .ok (.iand, 1) := by decide +kernel
theorem dX9_isOneMore_185 : decode cX9_isOneMore 185 = .ok (.invokestatic 85, 3) := by decide +kernel
theorem dX9_isOneMore_188 : decode cX9_isOneMore 188 = .ok (.if_icmp .eq 7, 3) := by decide +kernel
theorem dX9_isOneMore_191 : decode cX9_isOneMore 191 = .ok (.iconst 1, 1) := by decide +kernel
theorem dX9_isOneMore_192 : decode cX9_isOneMore 192 = .ok (.goto 4, 3) := by decide +kernel
theorem dX9_isOneMore_195 : decode cX9_isOneMore 195 = .ok (.iconst 0, 1) := by decide +kernel
theorem dX9_isOneMore_196 : decode cX9_isOneMore 196 = .ok (.istore 6, 2) := by decide +kernel
theorem dX9_isOneMore_198 : decode cX9_isOneMore 198 = .ok (.iinc 7 1, 3) := by decide +kernel
theorem dX9_isOneMore_201 : decode cX9_isOneMore 201 = .ok (.goto (-113), 3) := by decide +kernel
theorem dX9_isOneMore_204 : decode cX9_isOneMore 204 = .ok (.iload 6, 2) := by decide +kernel
theorem dX9_isOneMore_206 : decode cX9_isOneMore 206 = .ok (.ireturn, 1) := by decide +kernel
set_option maxRecDepth 20000 in
theorem ggX9_tellsApart_X9_has : GoodIn wsX9_tellsApart wsX9_has := goodIn_r _ [8] (by decide +kernel) (by decide +kernel)
set_option maxRecDepth 20000 in
theorem gX9_tellsApart_X9_has : GoodIn wsX9_tellsApart (va_wsS RX9 69 yX9_has wsX9_has) := goodIn_app (goodIn_of _ (by decide +kernel)) ggX9_tellsApart_X9_has
set_option maxRecDepth 20000 in
theorem ggX9_tellsApart_X9_isOneMore : GoodIn wsX9_tellsApart wsX9_isOneMore := goodIn_r _ [12, 1, 2, 13, 14, 7, 15, 31, 32, 33, 34, 35, 36, 37, 38, 39, 40, 41, 42, 43, 44, 45, 46, 47] (by decide +kernel) (by decide +kernel)
set_option maxRecDepth 20000 in
theorem gX9_tellsApart_X9_isOneMore : GoodIn wsX9_tellsApart (wsV RX9 112 RX9 yX9_isOneMore wsX9_isOneMore) := goodIn_app (goodIn_of _ (by decide +kernel)) ggX9_tellsApart_X9_isOneMore
set_option maxRecDepth 20000 in
theorem ggX9_tellsApart_X9_bring : GoodIn wsX9_tellsApart wsX9_bring := goodIn_r _ [18] (by decide +kernel) (by decide +kernel)
set_option maxRecDepth 20000 in
theorem gX9_tellsApart_X9_bring : GoodIn wsX9_tellsApart (va_wsS RX9 65 yX9_bring wsX9_bring) := goodIn_app (goodIn_of _ (by decide +kernel)) ggX9_tellsApart_X9_bring
set_option maxRecDepth 20000 in
theorem ggX9_tellsApart_X9_arranges : GoodIn wsX9_tellsApart wsX9_arranges := goodIn_r _ [22, 4, 1, 16, 17, 7, 18, 23, 24, 25, 26, 27, 28, 29, 30, 5, 6, 8, 31, 32, 33, 34, 35, 36, 37, 38, 39, 40, 41, 42, 43, 44, 45, 46, 47] (by decide +kernel) (by decide +kernel)
set_option maxRecDepth 20000 in
theorem gX9_tellsApart_X9_arranges : GoodIn wsX9_tellsApart (wsV RX9 116 RX9 yX9_arranges wsX9_arranges) := goodIn_app (goodIn_of _ (by decide +kernel)) ggX9_tellsApart_X9_arranges
theorem dX9_tellsApart_0 : decode cX9_tellsApart 0 = .ok (.iconst 0, 1) := by decide +kernel
theorem dX9_tellsApart_1 : decode cX9_tellsApart 1 = .ok (.istore 4, 2) := by decide +kernel
theorem dX9_tellsApart_3 : decode cX9_tellsApart 3 = .ok (.iload 4, 2) := by decide +kernel
theorem dX9_tellsApart_5 : decode cX9_tellsApart 5 = .ok (.aload_n 0, 1) := by decide +kernel
theorem dX9_tellsApart_6 : decode cX9_tellsApart 6 = .ok (.getfield 7, 3) := by decide +kernel
theorem dX9_tellsApart_9 : decode cX9_tellsApart 9 = .ok (.iconst 0, 1) := by decide +kernel
theorem dX9_tellsApart_10 : decode cX9_tellsApart 10 = .ok (.iaload, 1) := by decide +kernel
theorem dX9_tellsApart_11 : decode cX9_tellsApart 11 = .ok (.if_icmp .ge 104, 3) := by decide +kernel
theorem dX9_tellsApart_14 : decode cX9_tellsApart 14 = .ok (.iconst 0, 1) := by decide +kernel
theorem dX9_tellsApart_15 : decode cX9_tellsApart 15 = .ok (.istore 5, 2) := by decide +kernel
theorem dX9_tellsApart_17 : decode cX9_tellsApart 17 = .ok (.iload 5, 2) := by decide +kernel
theorem dX9_tellsApart_19 : decode cX9_tellsApart 19 = .ok (.aload_n 0, 1) := by decide +kernel
theorem dX9_tellsApart_20 : decode cX9_tellsApart 20 = .ok (.getfield 7, 3) := by decide +kernel
theorem dX9_tellsApart_23 : decode cX9_tellsApart 23 = .ok (.iconst 0, 1) := by decide +kernel
theorem dX9_tellsApart_24 : decode cX9_tellsApart 24 = .ok (.iaload, 1) := by decide +kernel
theorem dX9_tellsApart_25 : decode cX9_tellsApart 25 = .ok (.if_icmp .ge 84, 3) := by decide +kernel
theorem dX9_tellsApart_28 : decode cX9_tellsApart 28 = .ok (.iload_n 3, 1) := by decide +kernel
theorem dX9_tellsApart_29 : decode cX9_tellsApart 29 = .ok (.iconst 3, 1) := by decide +kernel
theorem dX9_tellsApart_30 : decode cX9_tellsApart 30 = .ok (.if_icmp .ne 32, 3) := by decide +kernel
theorem dX9_tellsApart_33 : decode cX9_tellsApart 33 = .ok (.aload_n 0, 1) := by decide +kernel
theorem dX9_tellsApart_34 : decode cX9_tellsApart 34 = .ok (.getfield 7, 3) := by decide +kernel
theorem dX9_tellsApart_37 : decode cX9_tellsApart 37 = .ok (.iconst 2, 1) := by decide +kernel
theorem dX9_tellsApart_38 : decode cX9_tellsApart 38 = .ok (.iaload, 1) := by decide +kernel
theorem dX9_tellsApart_39 : decode cX9_tellsApart 39 = .ok (.iload 4, 2) := by decide +kernel
theorem dX9_tellsApart_41 : decode cX9_tellsApart 41 = .ok (.invokestatic 69, 3) := by decide +kernel
theorem dX9_tellsApart_44 : decode cX9_tellsApart 44 = .ok (.aload_n 0, 1) := by decide +kernel
theorem dX9_tellsApart_45 : decode cX9_tellsApart 45 = .ok (.getfield 7, 3) := by decide +kernel
theorem dX9_tellsApart_48 : decode cX9_tellsApart 48 = .ok (.iconst 2, 1) := by decide +kernel
theorem dX9_tellsApart_49 : decode cX9_tellsApart 49 = .ok (.iaload, 1) := by decide +kernel
theorem dX9_tellsApart_50 : decode cX9_tellsApart 50 = .ok (.iload 5, 2) := by decide +kernel
theorem dX9_tellsApart_52 : decode cX9_tellsApart 52 = .ok (.invokestatic 69, 3) := by decide +kernel
theorem dX9_tellsApart_55 : decode cX9_tellsApart 55 = .ok (.if_icmp .eq 7, 3) := by decide +kernel
theorem dX9_tellsApart_58 : decode cX9_tellsApart 58 = .ok (.iconst 1, 1) := by decide +kernel
theorem dX9_tellsApart_59 : decode cX9_tellsApart 59 = .ok (.goto 4, 3) := by decide +kernel
theorem dX9_tellsApart_62 : decode cX9_tellsApart 62 = .ok (.iconst 0, 1) := by decide +kernel
theorem dX9_tellsApart_63 : decode cX9_tellsApart 63 = .ok (.istore 6, 2) := by decide +kernel
theorem dX9_tellsApart_65 : decode cX9_tellsApart 65 = .ok (.aload_n 0, 1) := by decide +kernel
theorem dX9_tellsApart_66 : decode cX9_tellsApart 66 = .ok (.getfield 32, 3) := by decide +kernel
theorem dX9_tellsApart_69 : decode cX9_tellsApart 69 = .ok (.bipush 12, 2) := by decide +kernel
theorem dX9_tellsApart_71 : decode cX9_tellsApart 71 = .ok (.iload 4, 2) := by decide +kernel
theorem dX9_tellsApart_73 : decode cX9_tellsApart 73 = .ok (.imul, 1) := by decide +kernel
theorem dX9_tellsApart_74 : decode cX9_tellsApart 74 = .ok (.iload 5, 2) := by decide +kernel
theorem dX9_tellsApart_76 : decode cX9_tellsApart 76 = .ok (.iadd, 1) := by decide +kernel
theorem dX9_tellsApart_77 : decode cX9_tellsApart 77 = .ok (.aload_n 1, 1) := by decide +kernel
theorem dX9_tellsApart_78 : decode cX9_tellsApart 78 = .ok (.iload_n 2, 1) := by decide +kernel
theorem dX9_tellsApart_79 : decode cX9_tellsApart 79 = .ok (.iload 4, 2) := by decide +kernel
theorem dX9_tellsApart_81 : decode cX9_tellsApart 81 = .ok (.iadd, 1) := by decide +kernel
theorem dX9_tellsApart_82 : decode cX9_tellsApart 82 = .ok (.iaload, 1) := by decide +kernel
theorem dX9_tellsApart_83 : decode cX9_tellsApart 83 = .ok (.aload_n 1, 1) := by decide +kernel
theorem dX9_tellsApart_84 : decode cX9_tellsApart 84 = .ok (.iload_n 2, 1) := by decide +kernel
theorem dX9_tellsApart_85 : decode cX9_tellsApart 85 = .ok (.iload 5, 2) := by decide +kernel
theorem dX9_tellsApart_87 : decode cX9_tellsApart 87 = .ok (.iadd, 1) := by decide +kernel
theorem dX9_tellsApart_88 : decode cX9_tellsApart 88 = .ok (.iaload, 1) := by decide +kernel
theorem dX9_tellsApart_89 : decode cX9_tellsApart 89 = .ok (.if_icmp .ne 8, 3) := by decide +kernel
theorem dX9_tellsApart_92 : decode cX9_tellsApart 92 = .ok (.iload 6, 2) := by decide +kernel
theorem dX9_tellsApart_94 : decode cX9_tellsApart 94 = .ok (.ifCond .eq 7, 3) := by decide +kernel
theorem dX9_tellsApart_97 : decode cX9_tellsApart 97 = .ok (.iconst 1, 1) := by decide +kernel
theorem dX9_tellsApart_98 : decode cX9_tellsApart 98 = .ok (.goto 4, 3) := by decide +kernel
theorem dX9_tellsApart_101 : decode cX9_tellsApart 101 = .ok (.iconst 0, 1) := by decide +kernel
theorem dX9_tellsApart_102 : decode cX9_tellsApart 102 = .ok (.bastore, 1) := by decide +kernel
theorem dX9_tellsApart_103 : decode cX9_tellsApart 103 = .ok (.iinc 5 1, 3) := by decide +kernel
theorem dX9_tellsApart_106 : decode cX9_tellsApart 106 = .ok (.goto (-89), 3) := by decide +kernel
theorem dX9_tellsApart_109 : decode cX9_tellsApart 109 = .ok (.iinc 4 1, 3) := by decide +kernel
theorem dX9_tellsApart_112 : decode cX9_tellsApart 112 = .ok (.goto (-109), 3) := by decide +kernel
theorem dX9_tellsApart_115 : decode cX9_tellsApart 115 = .ok (.iconst 1, 1) := by decide +kernel
theorem dX9_tellsApart_116 : decode cX9_tellsApart 116 = .ok (.istore 4, 2) := by decide +kernel
theorem dX9_tellsApart_118 : decode cX9_tellsApart 118 = .ok (.iload 4, 2) := by decide +kernel
theorem dX9_tellsApart_120 : decode cX9_tellsApart 120 = .ok (.ifCond .eq 169, 3) := by decide +kernel
theorem dX9_tellsApart_123 : decode cX9_tellsApart 123 = .ok (.iconst 0, 1) := by decide +kernel
theorem dX9_tellsApart_124 : decode cX9_tellsApart 124 = .ok (.istore 4, 2) := by decide +kernel
theorem dX9_tellsApart_126 : decode cX9_tellsApart 126 = .ok (.iconst 0, 1) := by decide +kernel
theorem dX9_tellsApart_127 : decode cX9_tellsApart 127 = .ok (.istore 5, 2) := by decide +kernel
theorem dX9_tellsApart_129 : decode cX9_tellsApart 129 = .ok (.iload 5, 2) := by decide +kernel
theorem dX9_tellsApart_131 : decode cX9_tellsApart 131 = .ok (.aload_n 0, 1) := by decide +kernel
theorem dX9_tellsApart_132 : decode cX9_tellsApart 132 = .ok (.getfield 7, 3) := by decide +kernel
theorem dX9_tellsApart_135 : decode cX9_tellsApart 135 = .ok (.iconst 0, 1) := by decide +kernel
theorem dX9_tellsApart_136 : decode cX9_tellsApart 136 = .ok (.iaload, 1) := by decide +kernel
theorem dX9_tellsApart_137 : decode cX9_tellsApart 137 = .ok (.if_icmp .ge 118, 3) := by decide +kernel
theorem dX9_tellsApart_140 : decode cX9_tellsApart 140 = .ok (.iconst 0, 1) := by decide +kernel
theorem dX9_tellsApart_141 : decode cX9_tellsApart 141 = .ok (.istore 6, 2) := by decide +kernel
theorem dX9_tellsApart_143 : decode cX9_tellsApart 143 = .ok (.iload 6, 2) := by decide +kernel
theorem dX9_tellsApart_145 : decode cX9_tellsApart 145 = .ok (.aload_n 0, 1) := by decide +kernel
theorem dX9_tellsApart_146 : decode cX9_tellsApart 146 = .ok (.getfield 7, 3) := by decide +kernel
theorem dX9_tellsApart_149 : decode cX9_tellsApart 149 = .ok (.iconst 0, 1) := by decide +kernel
theorem dX9_tellsApart_150 : decode cX9_tellsApart 150 = .ok (.iaload, 1) := by decide +kernel
theorem dX9_tellsApart_151 : decode cX9_tellsApart 151 = .ok (.if_icmp .ge 98, 3) := by decide +kernel
theorem dX9_tellsApart_154 : decode cX9_tellsApart 154 = .ok (.aload_n 0, 1) := by decide +kernel
theorem dX9_tellsApart_155 : decode cX9_tellsApart 155 = .ok (.getfield 35, 3) := by decide +kernel
theorem dX9_tellsApart_158 : decode cX9_tellsApart 158 = .ok (.bipush 12, 2) := by decide +kernel
theorem dX9_tellsApart_160 : decode cX9_tellsApart 160 = .ok (.iload 5, 2) := by decide +kernel
theorem dX9_tellsApart_162 : decode cX9_tellsApart 162 = .ok (.imul, 1) := by decide +kernel
theorem dX9_tellsApart_163 : decode cX9_tellsApart 163 = .ok (.iload 6, 2) := by decide +kernel
theorem dX9_tellsApart_165 : decode cX9_tellsApart 165 = .ok (.iadd, 1) := by decide +kernel
theorem dX9_tellsApart_166 : decode cX9_tellsApart 166 = .ok (.aload_n 0, 1) := by decide +kernel
theorem dX9_tellsApart_167 : decode cX9_tellsApart 167 = .ok (.getfield 32, 3) := by decide +kernel
theorem dX9_tellsApart_170 : decode cX9_tellsApart 170 = .ok (.bipush 12, 2) := by decide +kernel
theorem dX9_tellsApart_172 : decode cX9_tellsApart 172 = .ok (.iload 5, 2) := by decide +kernel
theorem dX9_tellsApart_174 : decode cX9_tellsApart 174 = .ok (.imul, 1) := by decide +kernel
theorem dX9_tellsApart_175 : decode cX9_tellsApart 175 = .ok (.iload 6, 2) := by decide +kernel
theorem dX9_tellsApart_177 : decode cX9_tellsApart 177 = .ok (.iadd, 1) := by decide +kernel
theorem dX9_tellsApart_178 : decode cX9_tellsApart 178 = .ok (.baload, 1) := by decide +kernel
theorem dX9_tellsApart_179 : decode cX9_tellsApart 179 = .ok (.ifCond .ne 17, 3) := by decide +kernel
theorem dX9_tellsApart_182 : decode cX9_tellsApart 182 = .ok (.aload_n 0, 1) := by decide +kernel
theorem dX9_tellsApart_183 : decode cX9_tellsApart 183 = .ok (.aload_n 1, 1) := by decide +kernel
theorem dX9_tellsApart_184 : decode cX9_tellsApart 184 = .ok (.iload_n 2, 1) := by decide +kernel
theorem dX9_tellsApart_185 : decode cX9_tellsApart 185 = .ok (.iload_n 3, 1) := by decide +kernel
theorem dX9_tellsApart_186 : decode cX9_tellsApart 186 = .ok (.iload 5, 2) := by decide +kernel
theorem dX9_tellsApart_188 : decode cX9_tellsApart 188 = .ok (.iload 6, 2) := by decide +kernel
theorem dX9_tellsApart_190 : decode cX9_tellsApart 190 = .ok (.invokevirtual 112, 3) := by decide +kernel
theorem dX9_tellsApart_193 : decode cX9_tellsApart 193 = .ok (.ifCond .eq 7, 3) := by decide +kernel
theorem dX9_tellsApart_196 : decode cX9_tellsApart 196 = .ok (.iconst 1, 1) := by decide +kernel
theorem dX9_tellsApart_197 : decode cX9_tellsApart 197 = .ok (.goto 4, 3) := by decide +kernel
theorem dX9_tellsApart_200 : decode cX9_tellsApart 200 = .ok (.iconst 0, 1) := by decide +kernel
theorem dX9_tellsApart_201 : decode cX9_tellsApart 201 = .ok (.bastore, 1) := by decide +kernel
theorem dX9_tellsApart_202 : decode cX9_tellsApart 202 = .ok (.iload 4, 2) := by decide +kernel
theorem dX9_tellsApart_204 : decode cX9_tellsApart 204 = .ok (.ifCond .ne 32, 3) := by decide +kernel
theorem dX9_tellsApart_207 : decode cX9_tellsApart 207 = .ok (.aload_n 0, 1) := by decide +kernel
theorem dX9_tellsApart_208 : decode cX9_tellsApart 208 = .ok (.getfield 35, 3) := by decide +kernel
theorem dX9_tellsApart_211 : decode cX9_tellsApart 211 = .ok (.bipush 12, 2) := by decide +kernel
theorem dX9_tellsApart_213 : decode cX9_tellsApart 213 = .ok (.iload 5, 2) := by decide +kernel
theorem dX9_tellsApart_215 : decode cX9_tellsApart 215 = .ok (.imul, 1) := by decide +kernel
theorem dX9_tellsApart_216 : decode cX9_tellsApart 216 = .ok (.iload 6, 2) := by decide +kernel
theorem dX9_tellsApart_218 : decode cX9_tellsApart 218 = .ok (.iadd, 1) := by decide +kernel
theorem dX9_tellsApart_219 : decode cX9_tellsApart 219 = .ok (.baload, 1) := by decide +kernel
theorem dX9_tellsApart_220 : decode cX9_tellsApart 220 = .ok (.aload_n 0, 1) := by decide +kernel
theorem dX9_tellsApart_221 : decode cX9_tellsApart 221 = .ok (.getfield 32, 3) := by decide +kernel
theorem dX9_tellsApart_224 : decode cX9_tellsApart 224 = .ok (.bipush 12, 2) := by decide +kernel
theorem dX9_tellsApart_226 : decode cX9_tellsApart 226 = .ok (.iload 5, 2) := by decide +kernel
theorem dX9_tellsApart_228 : decode cX9_tellsApart 228 = .ok (.imul, 1) := by decide +kernel
theorem dX9_tellsApart_229 : decode cX9_tellsApart 229 = .ok (.iload 6, 2) := by decide +kernel
theorem dX9_tellsApart_231 : decode cX9_tellsApart 231 = .ok (.iadd, 1) := by decide +kernel
theorem dX9_tellsApart_232 : decode cX9_tellsApart 232 = .ok (.baload, 1) := by decide +kernel
theorem dX9_tellsApart_233 : decode cX9_tellsApart 233 = .ok (.if_icmp .eq 7, 3) := by decide +kernel
theorem dX9_tellsApart_236 : decode cX9_tellsApart 236 = .ok (.iconst 1, 1) := by decide +kernel
theorem dX9_tellsApart_237 : decode cX9_tellsApart 237 = .ok (.goto 4, 3) := by decide +kernel
theorem dX9_tellsApart_240 : decode cX9_tellsApart 240 = .ok (.iconst 0, 1) := by decide +kernel
theorem dX9_tellsApart_241 : decode cX9_tellsApart 241 = .ok (.istore 4, 2) := by decide +kernel
theorem dX9_tellsApart_243 : decode cX9_tellsApart 243 = .ok (.iinc 6 1, 3) := by decide +kernel
theorem dX9_tellsApart_246 : decode cX9_tellsApart 246 = .ok (.goto (-103), 3) := by decide +kernel
theorem dX9_tellsApart_249 : decode cX9_tellsApart 249 = .ok (.iinc 5 1, 3) := by decide +kernel
theorem dX9_tellsApart_252 : decode cX9_tellsApart 252 = .ok (.goto (-123), 3) := by decide +kernel
theorem dX9_tellsApart_255 : decode cX9_tellsApart 255 = .ok (.iconst 0, 1) := by decide +kernel
theorem dX9_tellsApart_256 : decode cX9_tellsApart 256 = .ok (.istore 5, 2) := by decide +kernel
theorem dX9_tellsApart_258 : decode cX9_tellsApart 258 = .ok (.iload 5, 2) := by decide +kernel
theorem dX9_tellsApart_260 : decode cX9_tellsApart 260 = .ok (.sipush 144, 3) := by decide +kernel
theorem dX9_tellsApart_263 : decode cX9_tellsApart 263 = .ok (.if_icmp .ge 23, 3) := by decide +kernel
theorem dX9_tellsApart_266 : decode cX9_tellsApart 266 = .ok (.aload_n 0, 1) := by decide +kernel
theorem dX9_tellsApart_267 : decode cX9_tellsApart 267 = .ok (.getfield 32, 3) := by decide +kernel
theorem dX9_tellsApart_270 : decode cX9_tellsApart 270 = .ok (.iload 5, 2) := by decide +kernel
theorem dX9_tellsApart_272 : decode cX9_tellsApart 272 = .ok (.aload_n 0, 1) := by decide +kernel
theorem dX9_tellsApart_273 : decode cX9_tellsApart 273 = .ok (.getfield 35, 3) := by decide +kernel
theorem dX9_tellsApart_276 : decode cX9_tellsApart 276 = .ok (.iload 5, 2) := by decide +kernel
theorem dX9_tellsApart_278 : decode cX9_tellsApart 278 = .ok (.baload, 1) := by decide +kernel
theorem dX9_tellsApart_279 : decode cX9_tellsApart 279 = .ok (.bastore, 1) := by decide +kernel
theorem dX9_tellsApart_280 : decode cX9_tellsApart 280 = .ok (.iinc 5 1, 3) := by decide +kernel
theorem dX9_tellsApart_283 : decode cX9_tellsApart 283 = .ok (.goto (-25), 3) := by decide +kernel
theorem dX9_tellsApart_286 : decode cX9_tellsApart 286 = .ok (.goto (-168), 3) := by decide +kernel
theorem dX9_tellsApart_289 : decode cX9_tellsApart 289 = .ok (.aload_n 0, 1) := by decide +kernel
theorem dX9_tellsApart_290 : decode cX9_tellsApart 290 = .ok (.getfield 7, 3) := by decide +kernel
theorem dX9_tellsApart_293 : decode cX9_tellsApart 293 = .ok (.iconst 0, 1) := by decide +kernel
theorem dX9_tellsApart_294 : decode cX9_tellsApart 294 = .ok (.iaload, 1) := by decide +kernel
theorem dX9_tellsApart_295 : decode cX9_tellsApart 295 = .ok (.iconst 1, 1) := by decide +kernel
theorem dX9_tellsApart_296 : decode cX9_tellsApart 296 = .ok (.isub, 1) := by decide +kernel
theorem dX9_tellsApart_297 : decode cX9_tellsApart 297 = .ok (.istore 5, 2) := by decide +kernel
theorem dX9_tellsApart_299 : decode cX9_tellsApart 299 = .ok (.iload 5, 2) := by decide +kernel
theorem dX9_tellsApart_301 : decode cX9_tellsApart 301 = .ok (.ifCond .lt 64, 3) := by decide +kernel
theorem dX9_tellsApart_304 : decode cX9_tellsApart 304 = .ok (.iconst 0, 1) := by decide +kernel
theorem dX9_tellsApart_305 : decode cX9_tellsApart 305 = .ok (.istore 6, 2) := by decide +kernel
theorem dX9_tellsApart_307 : decode cX9_tellsApart 307 = .ok (.iload 6, 2) := by decide +kernel
theorem dX9_tellsApart_309 : decode cX9_tellsApart 309 = .ok (.aload_n 0, 1) := by decide +kernel
theorem dX9_tellsApart_310 : decode cX9_tellsApart 310 = .ok (.getfield 7, 3) := by decide +kernel
theorem dX9_tellsApart_313 : decode cX9_tellsApart 313 = .ok (.iconst 0, 1) := by decide +kernel
theorem dX9_tellsApart_314 : decode cX9_tellsApart 314 = .ok (.iaload, 1) := by decide +kernel
theorem dX9_tellsApart_315 : decode cX9_tellsApart 315 = .ok (.if_icmp .ge 44, 3) := by decide +kernel
theorem dX9_tellsApart_318 : decode cX9_tellsApart 318 = .ok (.aload_n 0, 1) := by decide +kernel
theorem dX9_tellsApart_319 : decode cX9_tellsApart 319 = .ok (.getfield 29, 3) := by decide +kernel
theorem dX9_tellsApart_322 : decode cX9_tellsApart 322 = .ok (.iload 6, 2) := by decide +kernel
theorem dX9_tellsApart_324 : decode cX9_tellsApart 324 = .ok (.aload_n 0, 1) := by decide +kernel
theorem dX9_tellsApart_325 : decode cX9_tellsApart 325 = .ok (.getfield 32, 3) := by decide +kernel
theorem dX9_tellsApart_328 : decode cX9_tellsApart 328 = .ok (.bipush 12, 2) := by decide +kernel
theorem dX9_tellsApart_330 : decode cX9_tellsApart 330 = .ok (.iload 5, 2) := by decide +kernel
theorem dX9_tellsApart_332 : decode cX9_tellsApart 332 = .ok (.imul, 1) := by decide +kernel
theorem dX9_tellsApart_333 : decode cX9_tellsApart 333 = .ok (.iload 6, 2) := by decide +kernel
theorem dX9_tellsApart_335 : decode cX9_tellsApart 335 = .ok (.iadd, 1) := by decide +kernel
theorem dX9_tellsApart_336 : decode cX9_tellsApart 336 = .ok (.baload, 1) := by decide +kernel
theorem dX9_tellsApart_337 : decode cX9_tellsApart 337 = .ok (.ifCond .eq 13, 3) := by decide +kernel
theorem dX9_tellsApart_340 : decode cX9_tellsApart 340 = .ok (.aload_n 0, 1) := by decide +kernel
theorem dX9_tellsApart_341 : decode cX9_tellsApart 341 = .ok (.getfield 29, 3) := by decide +kernel
theorem dX9_tellsApart_344 : decode cX9_tellsApart 344 = .ok (.iload 6, 2) := by decide +kernel
theorem dX9_tellsApart_346 : decode cX9_tellsApart 346 = .ok (.iaload, 1) := by decide +kernel
theorem dX9_tellsApart_347 : decode cX9_tellsApart 347 = .ok (.goto 5, 3) := by decide +kernel
theorem dX9_tellsApart_350 : decode cX9_tellsApart 350 = .ok (.iload 5, 2) := by decide +kernel
theorem dX9_tellsApart_352 : decode cX9_tellsApart 352 = .ok (.iastore, 1) := by decide +kernel
theorem dX9_tellsApart_353 : decode cX9_tellsApart 353 = .ok (.iinc 6 1, 3) := by decide +kernel
theorem dX9_tellsApart_356 : decode cX9_tellsApart 356 = .ok (.goto (-49), 3) := by decide +kernel
theorem dX9_tellsApart_359 : decode cX9_tellsApart 359 = .ok (.iinc 5 (-1), 3) := by decide +kernel
theorem dX9_tellsApart_362 : decode cX9_tellsApart 362 = .ok (.goto (-63), 3) := by decide +kernel
theorem dX9_tellsApart_365 : decode cX9_tellsApart 365 = .ok (.aload_n 0, 1) := by decide +kernel
theorem dX9_tellsApart_366 : decode cX9_tellsApart 366 = .ok (.getfield 29, 3) := by decide +kernel
theorem dX9_tellsApart_369 : decode cX9_tellsApart 369 = .ok (.iconst 0, 1) := by decide +kernel
theorem dX9_tellsApart_370 : decode cX9_tellsApart 370 = .ok (.aload_n 1, 1) := by decide +kernel
theorem dX9_tellsApart_371 : decode cX9_tellsApart 371 = .ok (.iload_n 2, 1) := by decide +kernel
theorem dX9_tellsApart_372 : decode cX9_tellsApart 372 = .ok (.aload_n 0, 1) := by decide +kernel
theorem dX9_tellsApart_373 : decode cX9_tellsApart 373 = .ok (.getfield 7, 3) := by decide +kernel
theorem dX9_tellsApart_376 : decode cX9_tellsApart 376 = .ok (.iconst 0, 1) := by decide +kernel
theorem dX9_tellsApart_377 : decode cX9_tellsApart 377 = .ok (.iaload, 1) := by decide +kernel
theorem dX9_tellsApart_378 : decode cX9_tellsApart 378 = .ok (.invokestatic 65, 3) := by decide +kernel
theorem dX9_tellsApart_381 : decode cX9_tellsApart 381 = .ok (.aload_n 0, 1) := by decide +kernel
theorem dX9_tellsApart_382 : decode cX9_tellsApart 382 = .ok (.aload_n 1, 1) := by decide +kernel
theorem dX9_tellsApart_383 : decode cX9_tellsApart 383 = .ok (.iload_n 2, 1) := by decide +kernel
theorem dX9_tellsApart_384 : decode cX9_tellsApart 384 = .ok (.invokevirtual 116, 3) := by decide +kernel
theorem dX9_tellsApart_387 : decode cX9_tellsApart 387 = .ok (.return_, 1) := by decide +kernel
set_option maxRecDepth 20000 in
theorem ggX9_refines_X9_tellsApart : GoodIn wsX9_refines wsX9_tellsApart := goodIn_r _ [6, 1, 7, 8, 9, 10, 11, 5, 12, 13, 14, 15, 16, 17, 18, 19, 20, 21, 22, 23, 24, 25, 26, 27, 28, 29, 30, 31, 32, 33, 34, 59, 60, 61, 62, 63, 64, 65, 66, 67, 68, 69, 70, 71, 72, 73, 74, 75] (by decide +kernel) (by decide +kernel)
set_option maxRecDepth 20000 in
theorem gX9_refines_X9_tellsApart : GoodIn wsX9_refines (wsV RX9 120 RX9 yX9_tellsApart wsX9_tellsApart) := goodIn_app (goodIn_of _ (by decide +kernel)) ggX9_refines_X9_tellsApart
set_option maxRecDepth 20000 in
theorem ggX9_refines_X9_setOf : GoodIn wsX9_refines wsX9_setOf := goodIn_r _ [38, 1, 39, 40, 41, 5, 42, 10, 11, 12, 43, 44, 45, 46, 47, 48, 49, 50, 27, 28, 29, 30, 17, 18, 19, 59, 60, 61, 62, 63, 64, 65, 66, 67, 68, 69, 70, 71, 72, 73, 74, 75] (by decide +kernel) (by decide +kernel)
set_option maxRecDepth 20000 in
theorem gX9_refines_X9_setOf : GoodIn wsX9_refines (wsV RX9 109 RX9 yX9_setOf wsX9_setOf) := goodIn_app (goodIn_of _ (by decide +kernel)) ggX9_refines_X9_setOf
set_option maxRecDepth 20000 in
theorem ggX9_refines_X9_splits : GoodIn wsX9_refines wsX9_splits := goodIn_r _ [54, 9, 55, 56, 57, 5, 58, 1, 20, 21, 22, 27, 28, 29, 30, 31, 32, 33, 34, 10, 11, 12, 59, 60, 61, 62, 63, 64, 65, 66, 67, 68, 69, 70, 71, 72, 73, 74, 75] (by decide +kernel) (by decide +kernel)
set_option maxRecDepth 20000 in
theorem gX9_refines_X9_splits : GoodIn wsX9_refines (wsV RX9 124 RX9 yX9_splits wsX9_splits) := goodIn_app (goodIn_of _ (by decide +kernel)) ggX9_refines_X9_splits
theorem dX9_refines_0 : decode cX9_refines 0 = .ok (.iload_n 3, 1) := by decide +kernel
theorem dX9_refines_1 : decode cX9_refines 1 = .ok (.iconst 2, 1) := by decide +kernel
theorem dX9_refines_2 : decode cX9_refines 2 = .ok (.if_icmp .le 11, 3) := by decide +kernel
theorem dX9_refines_5 : decode cX9_refines 5 = .ok (.aload_n 0, 1) := by decide +kernel
theorem dX9_refines_6 : decode cX9_refines 6 = .ok (.aload_n 1, 1) := by decide +kernel
theorem dX9_refines_7 : decode cX9_refines 7 = .ok (.iload_n 2, 1) := by decide +kernel
theorem dX9_refines_8 : decode cX9_refines 8 = .ok (.iload_n 3, 1) := by decide +kernel
theorem dX9_refines_9 : decode cX9_refines 9 = .ok (.invokevirtual 120, 3) := by decide +kernel
theorem dX9_refines_12 : decode cX9_refines 12 = .ok (.return_, 1) := by decide +kernel
theorem dX9_refines_13 : decode cX9_refines 13 = .ok (.iload_n 3, 1) := by decide +kernel
theorem dX9_refines_14 : decode cX9_refines 14 = .ok (.iconst 2, 1) := by decide +kernel
theorem dX9_refines_15 : decode cX9_refines 15 = .ok (.if_icmp .ne 8, 3) := by decide +kernel
theorem dX9_refines_18 : decode cX9_refines 18 = .ok (.bipush 8, 2) := by decide +kernel
theorem dX9_refines_20 : decode cX9_refines 20 = .ok (.goto 9, 3) := by decide +kernel
theorem dX9_refines_23 : decode cX9_refines 23 = .ok (.aload_n 0, 1) := by decide +kernel
theorem dX9_refines_24 : decode cX9_refines 24 = .ok (.getfield 7, 3) := by decide +kernel
theorem dX9_refines_27 : decode cX9_refines 27 = .ok (.iconst 0, 1) := by decide +kernel
theorem dX9_refines_28 : decode cX9_refines 28 = .ok (.iaload, 1) := by decide +kernel
theorem dX9_refines_29 : decode cX9_refines 29 = .ok (.istore 4, 2) := by decide +kernel
theorem dX9_refines_31 : decode cX9_refines 31 = .ok (.iconst 0, 1) := by decide +kernel
theorem dX9_refines_32 : decode cX9_refines 32 = .ok (.istore 5, 2) := by decide +kernel
theorem dX9_refines_34 : decode cX9_refines 34 = .ok (.iload 5, 2) := by decide +kernel
theorem dX9_refines_36 : decode cX9_refines 36 = .ok (.iload 4, 2) := by decide +kernel
theorem dX9_refines_38 : decode cX9_refines 38 = .ok (.if_icmp .ge 23, 3) := by decide +kernel
theorem dX9_refines_41 : decode cX9_refines 41 = .ok (.aload_n 0, 1) := by decide +kernel
theorem dX9_refines_42 : decode cX9_refines 42 = .ok (.aload_n 1, 1) := by decide +kernel
theorem dX9_refines_43 : decode cX9_refines 43 = .ok (.iload_n 2, 1) := by decide +kernel
theorem dX9_refines_44 : decode cX9_refines 44 = .ok (.aload_n 0, 1) := by decide +kernel
theorem dX9_refines_45 : decode cX9_refines 45 = .ok (.iload_n 3, 1) := by decide +kernel
theorem dX9_refines_46 : decode cX9_refines 46 = .ok (.iload 5, 2) := by decide +kernel
theorem dX9_refines_48 : decode cX9_refines 48 = .ok (.iconst 0, 1) := by decide +kernel
theorem dX9_refines_49 : decode cX9_refines 49 = .ok (.invokevirtual 109, 3) := by decide +kernel
theorem dX9_refines_52 : decode cX9_refines 52 = .ok (.invokevirtual 124, 3) := by decide +kernel
theorem dX9_refines_55 : decode cX9_refines 55 = .ok (.iinc 5 1, 3) := by decide +kernel
theorem dX9_refines_58 : decode cX9_refines 58 = .ok (.goto (-24), 3) := by decide +kernel
theorem dX9_refines_61 : decode cX9_refines 61 = .ok (.return_, 1) := by decide +kernel
set_option maxRecDepth 20000 in
theorem ggX9_ofItself_X9_refines : GoodIn wsX9_ofItself wsX9_refines := goodIn_r _ [6, 7, 8, 9, 10, 5, 11, 12, 13, 14, 15, 16, 17, 18, 19, 20, 21, 22, 23, 24, 25, 26, 27, 28, 29, 30, 31, 32, 33, 34, 35, 36, 37, 38, 39, 40, 41, 42, 43, 44, 45, 46, 47, 48, 49, 50, 51, 52, 53, 54, 55, 56, 57, 58, 59, 60, 61, 62, 63, 64, 65, 66, 67, 68, 69, 70, 71, 72, 73, 74, 75, 76, 77, 78, 79, 80] (by decide +kernel) (by decide +kernel)
set_option maxRecDepth 20000 in
theorem gX9_ofItself_X9_refines : GoodIn wsX9_ofItself (wsV RX9 127 RX9 yX9_refines wsX9_refines) := goodIn_app (goodIn_of _ (by decide +kernel)) ggX9_ofItself_X9_refines
theorem dX9_ofItself_0 : decode cX9_ofItself 0 = .ok (.iconst 0, 1) := by decide +kernel
theorem dX9_ofItself_1 : decode cX9_ofItself 1 = .ok (.istore_n 2, 1) := by decide +kernel
theorem dX9_ofItself_2 : decode cX9_ofItself 2 = .ok (.iload_n 2, 1) := by decide +kernel
theorem dX9_ofItself_3 : decode cX9_ofItself 3 = .ok (.bipush 12, 2) := by decide +kernel
theorem dX9_ofItself_5 : decode cX9_ofItself 5 = .ok (.if_icmp .ge 16, 3) := by decide +kernel
theorem dX9_ofItself_8 : decode cX9_ofItself 8 = .ok (.aload_n 0, 1) := by decide +kernel
theorem dX9_ofItself_9 : decode cX9_ofItself 9 = .ok (.getfield 38, 3) := by decide +kernel
theorem dX9_ofItself_12 : decode cX9_ofItself 12 = .ok (.iload_n 2, 1) := by decide +kernel
theorem dX9_ofItself_13 : decode cX9_ofItself 13 = .ok (.iconst 0, 1) := by decide +kernel
theorem dX9_ofItself_14 : decode cX9_ofItself 14 = .ok (.iastore, 1) := by decide +kernel
theorem dX9_ofItself_15 : decode cX9_ofItself 15 = .ok (.iinc 2 1, 3) := by decide +kernel
theorem dX9_ofItself_18 : decode cX9_ofItself 18 = .ok (.goto (-16), 3) := by decide +kernel
theorem dX9_ofItself_21 : decode cX9_ofItself 21 = .ok (.aload_n 0, 1) := by decide +kernel
theorem dX9_ofItself_22 : decode cX9_ofItself 22 = .ok (.aload_n 0, 1) := by decide +kernel
theorem dX9_ofItself_23 : decode cX9_ofItself 23 = .ok (.getfield 38, 3) := by decide +kernel
theorem dX9_ofItself_26 : decode cX9_ofItself 26 = .ok (.iconst 0, 1) := by decide +kernel
theorem dX9_ofItself_27 : decode cX9_ofItself 27 = .ok (.iload_n 1, 1) := by decide +kernel
theorem dX9_ofItself_28 : decode cX9_ofItself 28 = .ok (.invokevirtual 127, 3) := by decide +kernel
theorem dX9_ofItself_31 : decode cX9_ofItself 31 = .ok (.return_, 1) := by decide +kernel
set_option maxRecDepth 20000 in
theorem ggX9_refinedMany_X9_ofItself : GoodIn wsX9_refinedMany wsX9_ofItself := goodIn_r _ [6, 1, 7, 8, 9, 5, 10, 11, 12, 13, 14, 15, 16, 17, 18, 19, 20, 21, 22, 23, 24, 25, 26, 27, 28, 29, 30, 31, 32, 33, 34, 35, 36, 37, 38, 39, 40, 41, 42, 43, 44, 45, 46, 47, 48, 49, 50, 51, 52, 53, 54, 55, 56, 57, 58, 59, 60, 61, 62, 63, 64, 65, 66, 67, 68, 69, 70, 71, 72, 73, 74, 75, 76, 77, 78, 79, 80, 81, 82, 83, 84] (by decide +kernel) (by decide +kernel)
set_option maxRecDepth 20000 in
theorem gX9_refinedMany_X9_ofItself : GoodIn wsX9_refinedMany (wsV RX9 130 RX9 yX9_ofItself wsX9_ofItself) := goodIn_app (goodIn_of _ (by decide +kernel)) ggX9_refinedMany_X9_ofItself
set_option maxRecDepth 20000 in
theorem ggX9_refinedMany_X9_classes : GoodIn wsX9_refinedMany wsX9_classes := goodIn_r _ [67, 11, 68, 69, 70, 71, 72, 73, 74, 75, 76, 77, 78, 79, 80, 81, 82, 83, 84] (by decide +kernel) (by decide +kernel)
set_option maxRecDepth 20000 in
theorem gX9_refinedMany_X9_classes : GoodIn wsX9_refinedMany (wsV RX9 73 RX9 yX9_classes wsX9_classes) := goodIn_app (goodIn_of _ (by decide +kernel)) ggX9_refinedMany_X9_classes
theorem dX9_refinedMany_0 : decode cX9_refinedMany 0 = .ok (.aload_n 0, 1) := by decide +kernel
theorem dX9_refinedMany_1 : decode cX9_refinedMany 1 = .ok (.iload_n 1, 1) := by decide +kernel
theorem dX9_refinedMany_2 : decode cX9_refinedMany 2 = .ok (.invokevirtual 130, 3) := by decide +kernel
theorem dX9_refinedMany_5 : decode cX9_refinedMany 5 = .ok (.aload_n 0, 1) := by decide +kernel
theorem dX9_refinedMany_6 : decode cX9_refinedMany 6 = .ok (.aload_n 0, 1) := by decide +kernel
theorem dX9_refinedMany_7 : decode cX9_refinedMany 7 = .ok (.getfield 38, 3) := by decide +kernel
theorem dX9_refinedMany_10 : decode cX9_refinedMany 10 = .ok (.iconst 0, 1) := by decide +kernel
theorem dX9_refinedMany_11 : decode cX9_refinedMany 11 = .ok (.invokevirtual 73, 3) := by decide +kernel
theorem dX9_refinedMany_14 : decode cX9_refinedMany 14 = .ok (.ireturn, 1) := by decide +kernel
set_option maxRecDepth 20000 in
theorem ggX9_alike_X9_isItem : GoodIn wsX9_alike wsX9_isItem := goodIn_r _ [8, 9, 10, 11, 7, 12, 77, 78, 79, 80, 81, 82, 83, 84, 85, 86, 87, 88, 89, 90, 91, 92, 93] (by decide +kernel) (by decide +kernel)
set_option maxRecDepth 20000 in
theorem gX9_alike_X9_isItem : GoodIn wsX9_alike (wsV RX9 89 RX9 yX9_isItem wsX9_isItem) := goodIn_app (goodIn_of _ (by decide +kernel)) ggX9_alike_X9_isItem
set_option maxRecDepth 20000 in
theorem ggX9_alike_X9_in : GoodIn wsX9_alike wsX9_in := goodIn_r _ [12] (by decide +kernel) (by decide +kernel)
set_option maxRecDepth 20000 in
theorem gX9_alike_X9_in : GoodIn wsX9_alike (va_wsS RX9 57 yX9_in wsX9_in) := goodIn_app (goodIn_of _ (by decide +kernel)) ggX9_alike_X9_in
set_option maxRecDepth 20000 in
theorem ggX9_alike_X9_ofItself : GoodIn wsX9_alike wsX9_ofItself := goodIn_r _ [16, 3, 17, 18, 19, 7, 20, 9, 21, 22, 23, 24, 25, 26, 27, 28, 29, 30, 31, 32, 33, 34, 35, 36, 37, 38, 39, 40, 41, 42, 43, 44, 45, 46, 47, 48, 49, 50, 51, 52, 53, 54, 55, 56, 57, 58, 59, 60, 61, 62, 63, 64, 65, 66, 67, 68, 69, 70, 71, 72, 73, 74, 75, 76, 77, 78, 79, 80, 81, 82, 83, 84, 85, 86, 87, 88, 89, 90, 91, 92, 93] (by decide +kernel) (by decide +kernel)
set_option maxRecDepth 20000 in
theorem gX9_alike_X9_ofItself : GoodIn wsX9_alike (wsV RX9 130 RX9 yX9_ofItself wsX9_ofItself) := goodIn_app (goodIn_of _ (by decide +kernel)) ggX9_alike_X9_ofItself
theorem dX9_alike_0 : decode cX9_alike 0 = .ok (.aload_n 0, 1) := by decide +kernel
theorem dX9_alike_1 : decode cX9_alike 1 = .ok (.iload_n 1, 1) := by decide +kernel
theorem dX9_alike_2 : decode cX9_alike 2 = .ok (.invokevirtual 89, 3) := by decide +kernel
theorem dX9_alike_5 : decode cX9_alike 5 = .ok (.ifCond .eq 11, 3) := by decide +kernel
theorem dX9_alike_8 : decode cX9_alike 8 = .ok (.aload_n 0, 1) := by decide +kernel
theorem dX9_alike_9 : decode cX9_alike 9 = .ok (.iload_n 2, 1) := by decide +kernel
theorem dX9_alike_10 : decode cX9_alike 10 = .ok (.invokevirtual 89, 3) := by decide +kernel
theorem dX9_alike_13 : decode cX9_alike 13 = .ok (.ifCond .ne 6, 3) := by decide +kernel
theorem dX9_alike_16 : decode cX9_alike 16 = .ok (.ldc 93, 2) := by decide +kernel
theorem dX9_alike_18 : decode cX9_alike 18 = .ok (.ireturn, 1) := by decide +kernel
theorem dX9_alike_19 : decode cX9_alike 19 = .ok (.iload_n 3, 1) := by decide +kernel
theorem dX9_alike_20 : decode cX9_alike 20 = .ok (.iconst 0, 1) := by decide +kernel
theorem dX9_alike_21 : decode cX9_alike 21 = .ok (.iconst 4, 1) := by decide +kernel
theorem dX9_alike_22 : decode cX9_alike 22 = .ok (.invokestatic 57, 3) := by decide +kernel
theorem dX9_alike_25 : decode cX9_alike 25 = .ok (.ifCond .ne 6, 3) := by decide +kernel
theorem dX9_alike_28 : decode cX9_alike 28 = .ok (.ldc 94, 2) := by decide +kernel
theorem dX9_alike_30 : decode cX9_alike 30 = .ok (.ireturn, 1) := by decide +kernel
theorem dX9_alike_31 : decode cX9_alike 31 = .ok (.aload_n 0, 1) := by decide +kernel
theorem dX9_alike_32 : decode cX9_alike 32 = .ok (.iload_n 3, 1) := by decide +kernel
theorem dX9_alike_33 : decode cX9_alike 33 = .ok (.invokevirtual 130, 3) := by decide +kernel
theorem dX9_alike_36 : decode cX9_alike 36 = .ok (.aload_n 0, 1) := by decide +kernel
theorem dX9_alike_37 : decode cX9_alike 37 = .ok (.getfield 38, 3) := by decide +kernel
theorem dX9_alike_40 : decode cX9_alike 40 = .ok (.iload_n 1, 1) := by decide +kernel
theorem dX9_alike_41 : decode cX9_alike 41 = .ok (.iaload, 1) := by decide +kernel
theorem dX9_alike_42 : decode cX9_alike 42 = .ok (.aload_n 0, 1) := by decide +kernel
theorem dX9_alike_43 : decode cX9_alike 43 = .ok (.getfield 38, 3) := by decide +kernel
theorem dX9_alike_46 : decode cX9_alike 46 = .ok (.iload_n 2, 1) := by decide +kernel
theorem dX9_alike_47 : decode cX9_alike 47 = .ok (.iaload, 1) := by decide +kernel
theorem dX9_alike_48 : decode cX9_alike 48 = .ok (.if_icmp .ne 7, 3) := by decide +kernel
theorem dX9_alike_51 : decode cX9_alike 51 = .ok (.iconst 1, 1) := by decide +kernel
theorem dX9_alike_52 : decode cX9_alike 52 = .ok (.goto 4, 3) := by decide +kernel
theorem dX9_alike_55 : decode cX9_alike 55 = .ok (.iconst 0, 1) := by decide +kernel
theorem dX9_alike_56 : decode cX9_alike 56 = .ok (.ireturn, 1) := by decide +kernel
set_option maxRecDepth 20000 in
theorem ggX9_apart_X9_isItem : GoodIn wsX9_apart wsX9_isItem := goodIn_r _ [10, 5, 11, 12, 9, 13, 17, 18, 19, 20, 21, 22, 23, 24, 25, 26, 27, 28, 29, 30, 31, 32, 33] (by decide +kernel) (by decide +kernel)
set_option maxRecDepth 20000 in
theorem gX9_apart_X9_isItem : GoodIn wsX9_apart (wsV RX9 89 RX9 yX9_isItem wsX9_isItem) := goodIn_app (goodIn_of _ (by decide +kernel)) ggX9_apart_X9_isItem
set_option maxRecDepth 20000 in
theorem ggX9_apart_X9_has : GoodIn wsX9_apart wsX9_has := goodIn_r _ [16] (by decide +kernel) (by decide +kernel)
set_option maxRecDepth 20000 in
theorem gX9_apart_X9_has : GoodIn wsX9_apart (va_wsS RX9 69 yX9_has wsX9_has) := goodIn_app (goodIn_of _ (by decide +kernel)) ggX9_apart_X9_has
theorem dX9_apart_0 : decode cX9_apart 0 = .ok (.aload_n 0, 1) := by decide +kernel
theorem dX9_apart_1 : decode cX9_apart 1 = .ok (.iload_n 1, 1) := by decide +kernel
theorem dX9_apart_2 : decode cX9_apart 2 = .ok (.invokevirtual 89, 3) := by decide +kernel
theorem dX9_apart_5 : decode cX9_apart 5 = .ok (.ifCond .eq 11, 3) := by decide +kernel
theorem dX9_apart_8 : decode cX9_apart 8 = .ok (.aload_n 0, 1) := by decide +kernel
theorem dX9_apart_9 : decode cX9_apart 9 = .ok (.iload_n 2, 1) := by decide +kernel
theorem dX9_apart_10 : decode cX9_apart 10 = .ok (.invokevirtual 89, 3) := by decide +kernel
theorem dX9_apart_13 : decode cX9_apart 13 = .ok (.ifCond .ne 6, 3) := by decide +kernel
theorem dX9_apart_16 : decode cX9_apart 16 = .ok (.ldc 93, 2) := by decide +kernel
theorem dX9_apart_18 : decode cX9_apart 18 = .ok (.ireturn, 1) := by decide +kernel
theorem dX9_apart_19 : decode cX9_apart 19 = .ok (.iconst 0, 1) := by decide +kernel
theorem dX9_apart_20 : decode cX9_apart 20 = .ok (.istore_n 3, 1) := by decide +kernel
theorem dX9_apart_21 : decode cX9_apart 21 = .ok (.iload_n 3, 1) := by decide +kernel
theorem dX9_apart_22 : decode cX9_apart 22 = .ok (.sipush 144, 3) := by decide +kernel
theorem dX9_apart_25 : decode cX9_apart 25 = .ok (.if_icmp .ge 16, 3) := by decide +kernel
theorem dX9_apart_28 : decode cX9_apart 28 = .ok (.aload_n 0, 1) := by decide +kernel
theorem dX9_apart_29 : decode cX9_apart 29 = .ok (.getfield 47, 3) := by decide +kernel
theorem dX9_apart_32 : decode cX9_apart 32 = .ok (.iload_n 3, 1) := by decide +kernel
theorem dX9_apart_33 : decode cX9_apart 33 = .ok (.iconst 0, 1) := by decide +kernel
theorem dX9_apart_34 : decode cX9_apart 34 = .ok (.bastore, 1) := by decide +kernel
theorem dX9_apart_35 : decode cX9_apart 35 = .ok (.iinc 3 1, 3) := by decide +kernel
theorem dX9_apart_38 : decode cX9_apart 38 = .ok (.goto (-17), 3) := by decide +kernel
theorem dX9_apart_41 : decode cX9_apart 41 = .ok (.iconst 1, 1) := by decide +kernel
theorem dX9_apart_42 : decode cX9_apart 42 = .ok (.istore_n 3, 1) := by decide +kernel
theorem dX9_apart_43 : decode cX9_apart 43 = .ok (.aload_n 0, 1) := by decide +kernel
theorem dX9_apart_44 : decode cX9_apart 44 = .ok (.getfield 41, 3) := by decide +kernel
theorem dX9_apart_47 : decode cX9_apart 47 = .ok (.iconst 0, 1) := by decide +kernel
theorem dX9_apart_48 : decode cX9_apart 48 = .ok (.bipush 12, 2) := by decide +kernel
theorem dX9_apart_50 : decode cX9_apart 50 = .ok (.iload_n 1, 1) := by decide +kernel
theorem dX9_apart_51 : decode cX9_apart 51 = .ok (.imul, 1) := by decide +kernel
theorem dX9_apart_52 : decode cX9_apart 52 = .ok (.iload_n 2, 1) := by decide +kernel
theorem dX9_apart_53 : decode cX9_apart 53 = .ok (.iadd, 1) := by decide +kernel
theorem dX9_apart_54 : decode cX9_apart 54 = .ok (.iastore, 1) := by decide +kernel
theorem dX9_apart_55 : decode cX9_apart 55 = .ok (.aload_n 0, 1) := by decide +kernel
theorem dX9_apart_56 : decode cX9_apart 56 = .ok (.getfield 44, 3) := by decide +kernel
theorem dX9_apart_59 : decode cX9_apart 59 = .ok (.iconst 0, 1) := by decide +kernel
theorem dX9_apart_60 : decode cX9_apart 60 = .ok (.iconst 0, 1) := by decide +kernel
theorem dX9_apart_61 : decode cX9_apart 61 = .ok (.iastore, 1) := by decide +kernel
theorem dX9_apart_62 : decode cX9_apart 62 = .ok (.aload_n 0, 1) := by decide +kernel
theorem dX9_apart_63 : decode cX9_apart 63 = .ok (.getfield 47, 3) := by decide +kernel
theorem dX9_apart_66 : decode cX9_apart 66 = .ok (.aload_n 0, 1) := by decide +kernel
theorem dX9_apart_67 : decode cX9_apart 67 = .ok (.getfield 41, 3) := by decide +kernel
theorem dX9_apart_70 : decode cX9_apart 70 = .ok (.iconst 0, 1) := by decide +kernel
theorem dX9_apart_71 : decode cX9_apart 71 = .ok (.iaload, 1) := by decide +kernel
theorem dX9_apart_72 : decode cX9_apart 72 = .ok (.iconst 1, 1) := by decide +kernel
theorem dX9_apart_73 : decode cX9_apart 73 = .ok (.bastore, 1) := by decide +kernel
theorem dX9_apart_74 : decode cX9_apart 74 = .ok (.iconst 0, 1) := by decide +kernel
theorem dX9_apart_75 : decode cX9_apart 75 = .ok (.istore 4, 2) := by decide +kernel
theorem dX9_apart_77 : decode cX9_apart 77 = .ok (.iload 4, 2) := by decide +kernel
theorem dX9_apart_79 : decode cX9_apart 79 = .ok (.iload_n 3, 1) := by decide +kernel
end
section
theorem dX9_apart_80 : decode cX9_apart 80 = .ok (.if_icmp .ge 166, 3) := by decide +kernel
theorem dX9_apart_83 : decode cX9_apart 83 = .ok (.aload_n 0, 1) := by decide +kernel
theorem dX9_apart_84 : decode cX9_apart 84 = .ok (.getfield 41, 3) := by decide +kernel
theorem dX9_apart_87 : decode cX9_apart 87 = .ok (.iload 4, 2) := by decide +kernel
theorem dX9_apart_89 : decode cX9_apart 89 = .ok (.iaload, 1) := by decide +kernel
theorem dX9_apart_90 : decode cX9_apart 90 = .ok (.bipush 12, 2) := by decide +kernel
theorem dX9_apart_92 : decode cX9_apart 92 = .ok (.idiv, 1) := by decide +kernel
theorem dX9_apart_93 : decode cX9_apart 93 = .ok (.istore 5, 2) := by decide +kernel
theorem dX9_apart_95 : decode cX9_apart 95 = .ok (.aload_n 0, 1) := by decide +kernel
theorem dX9_apart_96 : decode cX9_apart 96 = .ok (.getfield 41, 3) := by decide +kernel
theorem dX9_apart_99 : decode cX9_apart 99 = .ok (.iload 4, 2) := by decide +kernel
theorem dX9_apart_101 : decode cX9_apart 101 = .ok (.iaload, 1) := by decide +kernel
theorem dX9_apart_102 : decode cX9_apart 102 = .ok (.bipush 12, 2) := by decide +kernel
theorem dX9_apart_104 : decode cX9_apart 104 = .ok (.irem, 1) := by decide +kernel
theorem dX9_apart_105 : decode cX9_apart 105 = .ok (.istore 6, 2) := by decide +kernel
theorem dX9_apart_107 : decode cX9_apart 107 = .ok (.aload_n 0, 1) := by decide +kernel
theorem dX9_apart_108 : decode cX9_apart 108 = .ok (.getfield 7, 3) := by decide +kernel
theorem dX9_apart_111 : decode cX9_apart 111 = .ok (.iconst 2, 1) := by decide +kernel
theorem dX9_apart_112 : decode cX9_apart 112 = .ok (.iaload, 1) := by decide +kernel
theorem dX9_apart_113 : decode cX9_apart 113 = .ok (.iload 5, 2) := by decide +kernel
theorem dX9_apart_115 : decode cX9_apart 115 = .ok (.invokestatic 69, 3) := by decide +kernel
theorem dX9_apart_118 : decode cX9_apart 118 = .ok (.aload_n 0, 1) := by decide +kernel
theorem dX9_apart_119 : decode cX9_apart 119 = .ok (.getfield 7, 3) := by decide +kernel
theorem dX9_apart_122 : decode cX9_apart 122 = .ok (.iconst 2, 1) := by decide +kernel
theorem dX9_apart_123 : decode cX9_apart 123 = .ok (.iaload, 1) := by decide +kernel
theorem dX9_apart_124 : decode cX9_apart 124 = .ok (.iload 6, 2) := by decide +kernel
theorem dX9_apart_126 : decode cX9_apart 126 = .ok (.invokestatic 69, 3) := by decide +kernel
theorem dX9_apart_129 : decode cX9_apart 129 = .ok (.if_icmp .eq 11, 3) := by decide +kernel
theorem dX9_apart_132 : decode cX9_apart 132 = .ok (.aload_n 0, 1) := by decide +kernel
theorem dX9_apart_133 : decode cX9_apart 133 = .ok (.getfield 44, 3) := by decide +kernel
theorem dX9_apart_136 : decode cX9_apart 136 = .ok (.iload 4, 2) := by decide +kernel
theorem dX9_apart_138 : decode cX9_apart 138 = .ok (.iaload, 1) := by decide +kernel
theorem dX9_apart_139 : decode cX9_apart 139 = .ok (.ireturn, 1) := by decide +kernel
theorem dX9_apart_140 : decode cX9_apart 140 = .ok (.iconst 0, 1) := by decide +kernel
theorem dX9_apart_141 : decode cX9_apart 141 = .ok (.istore 7, 2) := by decide +kernel
theorem dX9_apart_143 : decode cX9_apart 143 = .ok (.iload 7, 2) := by decide +kernel
theorem dX9_apart_145 : decode cX9_apart 145 = .ok (.aload_n 0, 1) := by decide +kernel
theorem dX9_apart_146 : decode cX9_apart 146 = .ok (.getfield 7, 3) := by decide +kernel
theorem dX9_apart_149 : decode cX9_apart 149 = .ok (.iconst 1, 1) := by decide +kernel
theorem dX9_apart_150 : decode cX9_apart 150 = .ok (.iaload, 1) := by decide +kernel
theorem dX9_apart_151 : decode cX9_apart 151 = .ok (.if_icmp .ge 89, 3) := by decide +kernel
theorem dX9_apart_154 : decode cX9_apart 154 = .ok (.bipush 12, 2) := by decide +kernel
theorem dX9_apart_156 : decode cX9_apart 156 = .ok (.aload_n 0, 1) := by decide +kernel
theorem dX9_apart_157 : decode cX9_apart 157 = .ok (.getfield 7, 3) := by decide +kernel
theorem dX9_apart_160 : decode cX9_apart 160 = .ok (.bipush 28, 2) := by decide +kernel
theorem dX9_apart_162 : decode cX9_apart 162 = .ok (.iconst 3, 1) := by decide +kernel
theorem dX9_apart_163 : decode cX9_apart 163 = .ok (.iload 5, 2) := by decide +kernel
theorem dX9_apart_165 : decode cX9_apart 165 = .ok (.imul, 1) := by decide +kernel
theorem dX9_apart_166 : decode cX9_apart 166 = .ok (.iadd, 1) := by decide +kernel
theorem dX9_apart_167 : decode cX9_apart 167 = .ok (.iload 7, 2) := by decide +kernel
theorem dX9_apart_169 : decode cX9_apart 169 = .ok (.iadd, 1) := by decide +kernel
theorem dX9_apart_170 : decode cX9_apart 170 = .ok (.iaload, 1) := by decide +kernel
theorem dX9_apart_171 : decode cX9_apart 171 = .ok (.imul, 1) := by decide +kernel
theorem dX9_apart_172 : decode cX9_apart 172 = .ok (.aload_n 0, 1) := by decide +kernel
theorem dX9_apart_173 : decode cX9_apart 173 = .ok (.getfield 7, 3) := by decide +kernel
theorem dX9_apart_176 : decode cX9_apart 176 = .ok (.bipush 28, 2) := by decide +kernel
theorem dX9_apart_178 : decode cX9_apart 178 = .ok (.iconst 3, 1) := by decide +kernel
theorem dX9_apart_179 : decode cX9_apart 179 = .ok (.iload 6, 2) := by decide +kernel
theorem dX9_apart_181 : decode cX9_apart 181 = .ok (.imul, 1) := by decide +kernel
theorem dX9_apart_182 : decode cX9_apart 182 = .ok (.iadd, 1) := by decide +kernel
theorem dX9_apart_183 : decode cX9_apart 183 = .ok (.iload 7, 2) := by decide +kernel
theorem dX9_apart_185 : decode cX9_apart 185 = .ok (.iadd, 1) := by decide +kernel
theorem dX9_apart_186 : decode cX9_apart 186 = .ok (.iaload, 1) := by decide +kernel
theorem dX9_apart_187 : decode cX9_apart 187 = .ok (.iadd, 1) := by decide +kernel
theorem dX9_apart_188 : decode cX9_apart 188 = .ok (.istore 8, 2) := by decide +kernel
theorem dX9_apart_190 : decode cX9_apart 190 = .ok (.aload_n 0, 1) := by decide +kernel
theorem dX9_apart_191 : decode cX9_apart 191 = .ok (.getfield 47, 3) := by decide +kernel
theorem dX9_apart_194 : decode cX9_apart 194 = .ok (.iload 8, 2) := by decide +kernel
theorem dX9_apart_196 : decode cX9_apart 196 = .ok (.baload, 1) := by decide +kernel
theorem dX9_apart_197 : decode cX9_apart 197 = .ok (.ifCond .ne 37, 3) := by decide +kernel
theorem dX9_apart_200 : decode cX9_apart 200 = .ok (.aload_n 0, 1) := by decide +kernel
theorem dX9_apart_201 : decode cX9_apart 201 = .ok (.getfield 47, 3) := by decide +kernel
theorem dX9_apart_204 : decode cX9_apart 204 = .ok (.iload 8, 2) := by decide +kernel
theorem dX9_apart_206 : decode cX9_apart 206 = .ok (.iconst 1, 1) := by decide +kernel
theorem dX9_apart_207 : decode cX9_apart 207 = .ok (.bastore, 1) := by decide +kernel
theorem dX9_apart_208 : decode cX9_apart 208 = .ok (.aload_n 0, 1) := by decide +kernel
theorem dX9_apart_209 : decode cX9_apart 209 = .ok (.getfield 41, 3) := by decide +kernel
theorem dX9_apart_212 : decode cX9_apart 212 = .ok (.iload_n 3, 1) := by decide +kernel
theorem dX9_apart_213 : decode cX9_apart 213 = .ok (.iload 8, 2) := by decide +kernel
theorem dX9_apart_215 : decode cX9_apart 215 = .ok (.iastore, 1) := by decide +kernel
theorem dX9_apart_216 : decode cX9_apart 216 = .ok (.aload_n 0, 1) := by decide +kernel
theorem dX9_apart_217 : decode cX9_apart 217 = .ok (.getfield 44, 3) := by decide +kernel
theorem dX9_apart_220 : decode cX9_apart 220 = .ok (.iload_n 3, 1) := by decide +kernel
theorem dX9_apart_221 : decode cX9_apart 221 = .ok (.aload_n 0, 1) := by decide +kernel
theorem dX9_apart_222 : decode cX9_apart 222 = .ok (.getfield 44, 3) := by decide +kernel
theorem dX9_apart_225 : decode cX9_apart 225 = .ok (.iload 4, 2) := by decide +kernel
theorem dX9_apart_227 : decode cX9_apart 227 = .ok (.iaload, 1) := by decide +kernel
theorem dX9_apart_228 : decode cX9_apart 228 = .ok (.iconst 1, 1) := by decide +kernel
theorem dX9_apart_229 : decode cX9_apart 229 = .ok (.iadd, 1) := by decide +kernel
theorem dX9_apart_230 : decode cX9_apart 230 = .ok (.iastore, 1) := by decide +kernel
theorem dX9_apart_231 : decode cX9_apart 231 = .ok (.iinc 3 1, 3) := by decide +kernel
theorem dX9_apart_234 : decode cX9_apart 234 = .ok (.iinc 7 1, 3) := by decide +kernel
theorem dX9_apart_237 : decode cX9_apart 237 = .ok (.goto (-94), 3) := by decide +kernel
theorem dX9_apart_240 : decode cX9_apart 240 = .ok (.iinc 4 1, 3) := by decide +kernel
theorem dX9_apart_243 : decode cX9_apart 243 = .ok (.goto (-166), 3) := by decide +kernel
theorem dX9_apart_246 : decode cX9_apart 246 = .ok (.iconst (-1), 1) := by decide +kernel
theorem dX9_apart_247 : decode cX9_apart 247 = .ok (.ireturn, 1) := by decide +kernel
set_option maxRecDepth 20000 in
theorem ggX9_leastOf_X9_has : GoodIn wsX9_leastOf wsX9_has := goodIn_r _ [4] (by decide +kernel) (by decide +kernel)
set_option maxRecDepth 20000 in
theorem gX9_leastOf_X9_has : GoodIn wsX9_leastOf (va_wsS RX9 69 yX9_has wsX9_has) := goodIn_app (goodIn_of _ (by decide +kernel)) ggX9_leastOf_X9_has
theorem dX9_leastOf_0 : decode cX9_leastOf 0 = .ok (.iconst 0, 1) := by decide +kernel
theorem dX9_leastOf_1 : decode cX9_leastOf 1 = .ok (.istore_n 2, 1) := by decide +kernel
theorem dX9_leastOf_2 : decode cX9_leastOf 2 = .ok (.iload_n 1, 1) := by decide +kernel
theorem dX9_leastOf_3 : decode cX9_leastOf 3 = .ok (.iload_n 2, 1) := by decide +kernel
theorem dX9_leastOf_4 : decode cX9_leastOf 4 = .ok (.invokestatic 69, 3) := by decide +kernel
theorem dX9_leastOf_7 : decode cX9_leastOf 7 = .ok (.ifCond .ne 9, 3) := by decide +kernel
theorem dX9_leastOf_10 : decode cX9_leastOf 10 = .ok (.iinc 2 1, 3) := by decide +kernel
theorem dX9_leastOf_13 : decode cX9_leastOf 13 = .ok (.goto (-11), 3) := by decide +kernel
theorem dX9_leastOf_16 : decode cX9_leastOf 16 = .ok (.iload_n 2, 1) := by decide +kernel
theorem dX9_leastOf_17 : decode cX9_leastOf 17 = .ok (.ireturn, 1) := by decide +kernel
set_option maxRecDepth 20000 in
theorem ggX9_searches_X9_membersOf : GoodIn wsX9_searches wsX9_membersOf := goodIn_r _ [8, 2, 32, 33, 34, 35, 36, 37, 38, 39, 40, 41, 42, 43, 44, 45, 46, 47, 48] (by decide +kernel) (by decide +kernel)
set_option maxRecDepth 20000 in
theorem gX9_searches_X9_membersOf : GoodIn wsX9_searches (wsV RX9 77 RX9 yX9_membersOf wsX9_membersOf) := goodIn_app (goodIn_of _ (by decide +kernel)) ggX9_searches_X9_membersOf
set_option maxRecDepth 20000 in
theorem ggX9_searches_X9_leastOf : GoodIn wsX9_searches wsX9_leastOf := goodIn_r _ [12, 13, 14, 7, 15] (by decide +kernel) (by decide +kernel)
set_option maxRecDepth 20000 in
theorem gX9_searches_X9_leastOf : GoodIn wsX9_searches (wsV RX9 133 RX9 yX9_leastOf wsX9_leastOf) := goodIn_app (goodIn_of _ (by decide +kernel)) ggX9_searches_X9_leastOf
set_option maxRecDepth 20000 in
theorem ggX9_searches_X9_splits : GoodIn wsX9_searches wsX9_splits := goodIn_r _ [19, 20, 21, 22, 23, 7, 24, 2, 25, 26, 27, 4, 5, 6, 8, 28, 29, 30, 31, 13, 14, 15, 32, 33, 34, 35, 36, 37, 38, 39, 40, 41, 42, 43, 44, 45, 46, 47, 48] (by decide +kernel) (by decide +kernel)
set_option maxRecDepth 20000 in
theorem gX9_searches_X9_splits : GoodIn wsX9_searches (wsV RX9 124 RX9 yX9_splits wsX9_splits) := goodIn_app (goodIn_of _ (by decide +kernel)) ggX9_searches_X9_splits
theorem dX9_searches_0 : decode cX9_searches 0 = .ok (.iconst 0, 1) := by decide +kernel
theorem dX9_searches_1 : decode cX9_searches 1 = .ok (.istore_n 2, 1) := by decide +kernel
theorem dX9_searches_2 : decode cX9_searches 2 = .ok (.iload_n 2, 1) := by decide +kernel
theorem dX9_searches_3 : decode cX9_searches 3 = .ok (.bipush 12, 2) := by decide +kernel
theorem dX9_searches_5 : decode cX9_searches 5 = .ok (.if_icmp .ge 25, 3) := by decide +kernel
theorem dX9_searches_8 : decode cX9_searches 8 = .ok (.aload_n 0, 1) := by decide +kernel
theorem dX9_searches_9 : decode cX9_searches 9 = .ok (.getfield 38, 3) := by decide +kernel
theorem dX9_searches_12 : decode cX9_searches 12 = .ok (.iload_n 2, 1) := by decide +kernel
theorem dX9_searches_13 : decode cX9_searches 13 = .ok (.iload_n 2, 1) := by decide +kernel
theorem dX9_searches_14 : decode cX9_searches 14 = .ok (.iload_n 1, 1) := by decide +kernel
theorem dX9_searches_15 : decode cX9_searches 15 = .ok (.if_icmp .ne 7, 3) := by decide +kernel
theorem dX9_searches_18 : decode cX9_searches 18 = .ok (.iconst 0, 1) := by decide +kernel
theorem dX9_searches_19 : decode cX9_searches 19 = .ok (.goto 4, 3) := by decide +kernel
theorem dX9_searches_22 : decode cX9_searches 22 = .ok (.iconst 1, 1) := by decide +kernel
theorem dX9_searches_23 : decode cX9_searches 23 = .ok (.iastore, 1) := by decide +kernel
theorem dX9_searches_24 : decode cX9_searches 24 = .ok (.iinc 2 1, 3) := by decide +kernel
theorem dX9_searches_27 : decode cX9_searches 27 = .ok (.goto (-25), 3) := by decide +kernel
theorem dX9_searches_30 : decode cX9_searches 30 = .ok (.iconst 0, 1) := by decide +kernel
theorem dX9_searches_31 : decode cX9_searches 31 = .ok (.istore_n 2, 1) := by decide +kernel
theorem dX9_searches_32 : decode cX9_searches 32 = .ok (.iload_n 2, 1) := by decide +kernel
theorem dX9_searches_33 : decode cX9_searches 33 = .ok (.aload_n 0, 1) := by decide +kernel
theorem dX9_searches_34 : decode cX9_searches 34 = .ok (.getfield 7, 3) := by decide +kernel
theorem dX9_searches_37 : decode cX9_searches 37 = .ok (.iconst 0, 1) := by decide +kernel
theorem dX9_searches_38 : decode cX9_searches 38 = .ok (.iaload, 1) := by decide +kernel
theorem dX9_searches_39 : decode cX9_searches 39 = .ok (.if_icmp .ge 81, 3) := by decide +kernel
theorem dX9_searches_42 : decode cX9_searches 42 = .ok (.iconst 0, 1) := by decide +kernel
theorem dX9_searches_43 : decode cX9_searches 43 = .ok (.istore_n 3, 1) := by decide +kernel
theorem dX9_searches_44 : decode cX9_searches 44 = .ok (.aload_n 0, 1) := by decide +kernel
theorem dX9_searches_45 : decode cX9_searches 45 = .ok (.aload_n 0, 1) := by decide +kernel
theorem dX9_searches_46 : decode cX9_searches 46 = .ok (.getfield 38, 3) := by decide +kernel
theorem dX9_searches_49 : decode cX9_searches 49 = .ok (.iconst 0, 1) := by decide +kernel
theorem dX9_searches_50 : decode cX9_searches 50 = .ok (.iload_n 3, 1) := by decide +kernel
theorem dX9_searches_51 : decode cX9_searches 51 = .ok (.invokevirtual 77, 3) := by decide +kernel
theorem dX9_searches_54 : decode cX9_searches 54 = .ok (.ifCond .ne 9, 3) := by decide +kernel
theorem dX9_searches_57 : decode cX9_searches 57 = .ok (.iinc 3 1, 3) := by decide +kernel
theorem dX9_searches_60 : decode cX9_searches 60 = .ok (.goto (-16), 3) := by decide +kernel
theorem dX9_searches_63 : decode cX9_searches 63 = .ok (.aload_n 0, 1) := by decide +kernel
theorem dX9_searches_64 : decode cX9_searches 64 = .ok (.aload_n 0, 1) := by decide +kernel
theorem dX9_searches_65 : decode cX9_searches 65 = .ok (.aload_n 0, 1) := by decide +kernel
theorem dX9_searches_66 : decode cX9_searches 66 = .ok (.getfield 38, 3) := by decide +kernel
theorem dX9_searches_69 : decode cX9_searches 69 = .ok (.iconst 0, 1) := by decide +kernel
theorem dX9_searches_70 : decode cX9_searches 70 = .ok (.iload_n 3, 1) := by decide +kernel
theorem dX9_searches_71 : decode cX9_searches 71 = .ok (.invokevirtual 77, 3) := by decide +kernel
theorem dX9_searches_74 : decode cX9_searches 74 = .ok (.invokevirtual 133, 3) := by decide +kernel
theorem dX9_searches_77 : decode cX9_searches 77 = .ok (.istore 4, 2) := by decide +kernel
theorem dX9_searches_79 : decode cX9_searches 79 = .ok (.aload_n 0, 1) := by decide +kernel
theorem dX9_searches_80 : decode cX9_searches 80 = .ok (.getfield 50, 3) := by decide +kernel
theorem dX9_searches_83 : decode cX9_searches 83 = .ok (.iload_n 2, 1) := by decide +kernel
theorem dX9_searches_84 : decode cX9_searches 84 = .ok (.iload 4, 2) := by decide +kernel
theorem dX9_searches_86 : decode cX9_searches 86 = .ok (.iastore, 1) := by decide +kernel
theorem dX9_searches_87 : decode cX9_searches 87 = .ok (.aload_n 0, 1) := by decide +kernel
theorem dX9_searches_88 : decode cX9_searches 88 = .ok (.getfield 38, 3) := by decide +kernel
theorem dX9_searches_91 : decode cX9_searches 91 = .ok (.iload 4, 2) := by decide +kernel
theorem dX9_searches_93 : decode cX9_searches 93 = .ok (.iconst (-1), 1) := by decide +kernel
theorem dX9_searches_94 : decode cX9_searches 94 = .ok (.iastore, 1) := by decide +kernel
theorem dX9_searches_95 : decode cX9_searches 95 = .ok (.aload_n 0, 1) := by decide +kernel
theorem dX9_searches_96 : decode cX9_searches 96 = .ok (.aload_n 0, 1) := by decide +kernel
theorem dX9_searches_97 : decode cX9_searches 97 = .ok (.getfield 38, 3) := by decide +kernel
theorem dX9_searches_100 : decode cX9_searches 100 = .ok (.iconst 0, 1) := by decide +kernel
theorem dX9_searches_101 : decode cX9_searches 101 = .ok (.aload_n 0, 1) := by decide +kernel
theorem dX9_searches_102 : decode cX9_searches 102 = .ok (.getfield 7, 3) := by decide +kernel
theorem dX9_searches_105 : decode cX9_searches 105 = .ok (.bipush 16, 2) := by decide +kernel
theorem dX9_searches_107 : decode cX9_searches 107 = .ok (.iload 4, 2) := by decide +kernel
theorem dX9_searches_109 : decode cX9_searches 109 = .ok (.iadd, 1) := by decide +kernel
theorem dX9_searches_110 : decode cX9_searches 110 = .ok (.iaload, 1) := by decide +kernel
theorem dX9_searches_111 : decode cX9_searches 111 = .ok (.invokevirtual 124, 3) := by decide +kernel
theorem dX9_searches_114 : decode cX9_searches 114 = .ok (.iinc 2 1, 3) := by decide +kernel
theorem dX9_searches_117 : decode cX9_searches 117 = .ok (.goto (-85), 3) := by decide +kernel
theorem dX9_searches_120 : decode cX9_searches 120 = .ok (.return_, 1) := by decide +kernel
set_option maxRecDepth 20000 in
theorem ggX9_search_X9_isItem : GoodIn wsX9_search wsX9_isItem := goodIn_r _ [7, 8, 9, 10, 6, 11, 44, 45, 46, 47, 48, 49, 50, 51, 52, 53, 54, 55, 56, 57, 58, 59, 60] (by decide +kernel) (by decide +kernel)
set_option maxRecDepth 20000 in
theorem gX9_search_X9_isItem : GoodIn wsX9_search (wsV RX9 89 RX9 yX9_isItem wsX9_isItem) := goodIn_app (goodIn_of _ (by decide +kernel)) ggX9_search_X9_isItem
set_option maxRecDepth 20000 in
theorem ggX9_search_X9_searches : GoodIn wsX9_search wsX9_searches := goodIn_r _ [15, 16, 8, 2, 17, 18, 19, 6, 20, 21, 22, 23, 24, 25, 26, 27, 28, 29, 30, 31, 32, 33, 34, 35, 36, 37, 38, 39, 40, 41, 42, 43, 44, 45, 46, 47, 48, 49, 50, 51, 52, 53, 54, 55, 56, 57, 58, 59, 60] (by decide +kernel) (by decide +kernel)
set_option maxRecDepth 20000 in
theorem gX9_search_X9_searches : GoodIn wsX9_search (wsV RX9 136 RX9 yX9_searches wsX9_searches) := goodIn_app (goodIn_of _ (by decide +kernel)) ggX9_search_X9_searches
theorem dX9_search_0 : decode cX9_search 0 = .ok (.aload_n 0, 1) := by decide +kernel
theorem dX9_search_1 : decode cX9_search 1 = .ok (.iload_n 1, 1) := by decide +kernel
theorem dX9_search_2 : decode cX9_search 2 = .ok (.invokevirtual 89, 3) := by decide +kernel
theorem dX9_search_5 : decode cX9_search 5 = .ok (.ifCond .eq 11, 3) := by decide +kernel
theorem dX9_search_8 : decode cX9_search 8 = .ok (.aload_n 0, 1) := by decide +kernel
theorem dX9_search_9 : decode cX9_search 9 = .ok (.iload_n 2, 1) := by decide +kernel
theorem dX9_search_10 : decode cX9_search 10 = .ok (.invokevirtual 89, 3) := by decide +kernel
theorem dX9_search_13 : decode cX9_search 13 = .ok (.ifCond .ne 6, 3) := by decide +kernel
theorem dX9_search_16 : decode cX9_search 16 = .ok (.ldc 93, 2) := by decide +kernel
theorem dX9_search_18 : decode cX9_search 18 = .ok (.ireturn, 1) := by decide +kernel
theorem dX9_search_19 : decode cX9_search 19 = .ok (.aload_n 0, 1) := by decide +kernel
theorem dX9_search_20 : decode cX9_search 20 = .ok (.iload_n 1, 1) := by decide +kernel
theorem dX9_search_21 : decode cX9_search 21 = .ok (.invokevirtual 136, 3) := by decide +kernel
theorem dX9_search_24 : decode cX9_search 24 = .ok (.aload_n 0, 1) := by decide +kernel
theorem dX9_search_25 : decode cX9_search 25 = .ok (.getfield 50, 3) := by decide +kernel
theorem dX9_search_28 : decode cX9_search 28 = .ok (.iload_n 2, 1) := by decide +kernel
theorem dX9_search_29 : decode cX9_search 29 = .ok (.iaload, 1) := by decide +kernel
theorem dX9_search_30 : decode cX9_search 30 = .ok (.ireturn, 1) := by decide +kernel
set_option maxRecDepth 20000 in
theorem ggX9_faultNow_X9_searches : GoodIn wsX9_faultNow wsX9_searches := goodIn_r _ [7, 8, 1, 2, 9, 10, 11, 6, 12, 13, 14, 15, 16, 17, 18, 19, 20, 21, 22, 23, 24, 25, 26, 27, 28, 29, 30, 31, 32, 33, 34, 35, 36, 37, 38, 39, 40, 41, 42, 43, 44, 45, 46, 47, 48, 49, 50, 51, 52] (by decide +kernel) (by decide +kernel)
set_option maxRecDepth 20000 in
theorem gX9_faultNow_X9_searches : GoodIn wsX9_faultNow (wsV RX9 136 RX9 yX9_searches wsX9_searches) := goodIn_app (goodIn_of _ (by decide +kernel)) ggX9_faultNow_X9_searches
set_option maxRecDepth 20000 in
theorem ggX9_faultNow_X9_has : GoodIn wsX9_faultNow wsX9_has := goodIn_r _ [19] (by decide +kernel) (by decide +kernel)
set_option maxRecDepth 20000 in
theorem gX9_faultNow_X9_has : GoodIn wsX9_faultNow (va_wsS RX9 69 yX9_has wsX9_has) := goodIn_app (goodIn_of _ (by decide +kernel)) ggX9_faultNow_X9_has
theorem dX9_faultNow_0 : decode cX9_faultNow 0 = .ok (.aload_n 0, 1) := by decide +kernel
theorem dX9_faultNow_1 : decode cX9_faultNow 1 = .ok (.iconst 0, 1) := by decide +kernel
theorem dX9_faultNow_2 : decode cX9_faultNow 2 = .ok (.invokevirtual 136, 3) := by decide +kernel
theorem dX9_faultNow_5 : decode cX9_faultNow 5 = .ok (.iconst 0, 1) := by decide +kernel
theorem dX9_faultNow_6 : decode cX9_faultNow 6 = .ok (.istore_n 1, 1) := by decide +kernel
theorem dX9_faultNow_7 : decode cX9_faultNow 7 = .ok (.iconst 0, 1) := by decide +kernel
theorem dX9_faultNow_8 : decode cX9_faultNow 8 = .ok (.istore_n 2, 1) := by decide +kernel
theorem dX9_faultNow_9 : decode cX9_faultNow 9 = .ok (.iload_n 2, 1) := by decide +kernel
theorem dX9_faultNow_10 : decode cX9_faultNow 10 = .ok (.aload_n 0, 1) := by decide +kernel
theorem dX9_faultNow_11 : decode cX9_faultNow 11 = .ok (.getfield 7, 3) := by decide +kernel
theorem dX9_faultNow_14 : decode cX9_faultNow 14 = .ok (.iconst 0, 1) := by decide +kernel
theorem dX9_faultNow_15 : decode cX9_faultNow 15 = .ok (.iaload, 1) := by decide +kernel
theorem dX9_faultNow_16 : decode cX9_faultNow 16 = .ok (.if_icmp .ge 115, 3) := by decide +kernel
theorem dX9_faultNow_19 : decode cX9_faultNow 19 = .ok (.aload_n 0, 1) := by decide +kernel
theorem dX9_faultNow_20 : decode cX9_faultNow 20 = .ok (.getfield 50, 3) := by decide +kernel
theorem dX9_faultNow_23 : decode cX9_faultNow 23 = .ok (.iload_n 2, 1) := by decide +kernel
theorem dX9_faultNow_24 : decode cX9_faultNow 24 = .ok (.iaload, 1) := by decide +kernel
theorem dX9_faultNow_25 : decode cX9_faultNow 25 = .ok (.istore_n 3, 1) := by decide +kernel
theorem dX9_faultNow_26 : decode cX9_faultNow 26 = .ok (.aload_n 0, 1) := by decide +kernel
theorem dX9_faultNow_27 : decode cX9_faultNow 27 = .ok (.getfield 7, 3) := by decide +kernel
theorem dX9_faultNow_30 : decode cX9_faultNow 30 = .ok (.bipush 16, 2) := by decide +kernel
theorem dX9_faultNow_32 : decode cX9_faultNow 32 = .ok (.iload_n 3, 1) := by decide +kernel
theorem dX9_faultNow_33 : decode cX9_faultNow 33 = .ok (.iadd, 1) := by decide +kernel
theorem dX9_faultNow_34 : decode cX9_faultNow 34 = .ok (.iaload, 1) := by decide +kernel
theorem dX9_faultNow_35 : decode cX9_faultNow 35 = .ok (.iload_n 1, 1) := by decide +kernel
theorem dX9_faultNow_36 : decode cX9_faultNow 36 = .ok (.iand, 1) := by decide +kernel
theorem dX9_faultNow_37 : decode cX9_faultNow 37 = .ok (.istore 4, 2) := by decide +kernel
theorem dX9_faultNow_39 : decode cX9_faultNow 39 = .ok (.iconst (-1), 1) := by decide +kernel
theorem dX9_faultNow_40 : decode cX9_faultNow 40 = .ok (.istore 5, 2) := by decide +kernel
theorem dX9_faultNow_42 : decode cX9_faultNow 42 = .ok (.iconst 0, 1) := by decide +kernel
theorem dX9_faultNow_43 : decode cX9_faultNow 43 = .ok (.istore 6, 2) := by decide +kernel
theorem dX9_faultNow_45 : decode cX9_faultNow 45 = .ok (.iload 6, 2) := by decide +kernel
theorem dX9_faultNow_47 : decode cX9_faultNow 47 = .ok (.iload_n 2, 1) := by decide +kernel
theorem dX9_faultNow_48 : decode cX9_faultNow 48 = .ok (.if_icmp .ge 38, 3) := by decide +kernel
theorem dX9_faultNow_51 : decode cX9_faultNow 51 = .ok (.iload 4, 2) := by decide +kernel
theorem dX9_faultNow_53 : decode cX9_faultNow 53 = .ok (.aload_n 0, 1) := by decide +kernel
theorem dX9_faultNow_54 : decode cX9_faultNow 54 = .ok (.getfield 50, 3) := by decide +kernel
theorem dX9_faultNow_57 : decode cX9_faultNow 57 = .ok (.iload 6, 2) := by decide +kernel
theorem dX9_faultNow_59 : decode cX9_faultNow 59 = .ok (.iaload, 1) := by decide +kernel
theorem dX9_faultNow_60 : decode cX9_faultNow 60 = .ok (.invokestatic 69, 3) := by decide +kernel
theorem dX9_faultNow_63 : decode cX9_faultNow 63 = .ok (.ifCond .eq 13, 3) := by decide +kernel
theorem dX9_faultNow_66 : decode cX9_faultNow 66 = .ok (.aload_n 0, 1) := by decide +kernel
theorem dX9_faultNow_67 : decode cX9_faultNow 67 = .ok (.getfield 50, 3) := by decide +kernel
theorem dX9_faultNow_70 : decode cX9_faultNow 70 = .ok (.iload 6, 2) := by decide +kernel
theorem dX9_faultNow_72 : decode cX9_faultNow 72 = .ok (.iaload, 1) := by decide +kernel
theorem dX9_faultNow_73 : decode cX9_faultNow 73 = .ok (.goto 5, 3) := by decide +kernel
theorem dX9_faultNow_76 : decode cX9_faultNow 76 = .ok (.iload 5, 2) := by decide +kernel
theorem dX9_faultNow_78 : decode cX9_faultNow 78 = .ok (.istore 5, 2) := by decide +kernel
theorem dX9_faultNow_80 : decode cX9_faultNow 80 = .ok (.iinc 6 1, 3) := by decide +kernel
theorem dX9_faultNow_83 : decode cX9_faultNow 83 = .ok (.goto (-38), 3) := by decide +kernel
theorem dX9_faultNow_86 : decode cX9_faultNow 86 = .ok (.iload 5, 2) := by decide +kernel
theorem dX9_faultNow_88 : decode cX9_faultNow 88 = .ok (.iconst (-1), 1) := by decide +kernel
theorem dX9_faultNow_89 : decode cX9_faultNow 89 = .ok (.if_icmp .eq 30, 3) := by decide +kernel
theorem dX9_faultNow_92 : decode cX9_faultNow 92 = .ok (.iload 4, 2) := by decide +kernel
theorem dX9_faultNow_94 : decode cX9_faultNow 94 = .ok (.iconst 1, 1) := by decide +kernel
theorem dX9_faultNow_95 : decode cX9_faultNow 95 = .ok (.iload 5, 2) := by decide +kernel
theorem dX9_faultNow_97 : decode cX9_faultNow 97 = .ok (.ishl, 1) := by decide +kernel
theorem dX9_faultNow_98 : decode cX9_faultNow 98 = .ok (.iconst (-1), 1) := by decide +kernel
theorem dX9_faultNow_99 : decode cX9_faultNow 99 = .ok (.ixor, 1) := by decide +kernel
theorem dX9_faultNow_100 : decode cX9_faultNow 100 = .ok (.iand, 1) := by decide +kernel
theorem dX9_faultNow_101 : decode cX9_faultNow 101 = .ok (.aload_n 0, 1) := by decide +kernel
theorem dX9_faultNow_102 : decode cX9_faultNow 102 = .ok (.getfield 7, 3) := by decide +kernel
theorem dX9_faultNow_105 : decode cX9_faultNow 105 = .ok (.bipush 16, 2) := by decide +kernel
theorem dX9_faultNow_107 : decode cX9_faultNow 107 = .ok (.iload 5, 2) := by decide +kernel
theorem dX9_faultNow_109 : decode cX9_faultNow 109 = .ok (.iadd, 1) := by decide +kernel
theorem dX9_faultNow_110 : decode cX9_faultNow 110 = .ok (.iaload, 1) := by decide +kernel
theorem dX9_faultNow_111 : decode cX9_faultNow 111 = .ok (.iconst (-1), 1) := by decide +kernel
theorem dX9_faultNow_112 : decode cX9_faultNow 112 = .ok (.ixor, 1) := by decide +kernel
theorem dX9_faultNow_113 : decode cX9_faultNow 113 = .ok (.iand, 1) := by decide +kernel
theorem dX9_faultNow_114 : decode cX9_faultNow 114 = .ok (.ifCond .eq 5, 3) := by decide +kernel
theorem dX9_faultNow_117 : decode cX9_faultNow 117 = .ok (.iload_n 3, 1) := by decide +kernel
theorem dX9_faultNow_118 : decode cX9_faultNow 118 = .ok (.ireturn, 1) := by decide +kernel
theorem dX9_faultNow_119 : decode cX9_faultNow 119 = .ok (.iload_n 1, 1) := by decide +kernel
theorem dX9_faultNow_120 : decode cX9_faultNow 120 = .ok (.iconst 1, 1) := by decide +kernel
theorem dX9_faultNow_121 : decode cX9_faultNow 121 = .ok (.iload_n 3, 1) := by decide +kernel
theorem dX9_faultNow_122 : decode cX9_faultNow 122 = .ok (.ishl, 1) := by decide +kernel
theorem dX9_faultNow_123 : decode cX9_faultNow 123 = .ok (.ior, 1) := by decide +kernel
theorem dX9_faultNow_124 : decode cX9_faultNow 124 = .ok (.istore_n 1, 1) := by decide +kernel
theorem dX9_faultNow_125 : decode cX9_faultNow 125 = .ok (.iinc 2 1, 3) := by decide +kernel
theorem dX9_faultNow_128 : decode cX9_faultNow 128 = .ok (.goto (-119), 3) := by decide +kernel
theorem dX9_faultNow_131 : decode cX9_faultNow 131 = .ok (.iconst (-1), 1) := by decide +kernel
theorem dX9_faultNow_132 : decode cX9_faultNow 132 = .ok (.ireturn, 1) := by decide +kernel
set_option maxRecDepth 20000 in
theorem ggX9_cliqueNow_X9_faultNow : GoodIn wsX9_cliqueNow wsX9_faultNow := goodIn_r _ [6, 1, 7, 8, 9, 10, 5, 11, 12, 13, 14, 15, 16, 17, 18, 19, 20, 21, 22, 23, 24, 25, 26, 27, 28, 29, 30, 31, 32, 33, 34, 35, 36, 37, 38, 39, 43, 44, 45, 46, 47, 48, 49, 50, 51, 52, 53, 54, 55, 56, 57, 58, 59] (by decide +kernel) (by decide +kernel)
set_option maxRecDepth 20000 in
theorem gX9_cliqueNow_X9_faultNow : GoodIn wsX9_cliqueNow (wsV RX9 139 RX9 yX9_faultNow wsX9_faultNow) := goodIn_app (goodIn_of _ (by decide +kernel)) ggX9_cliqueNow_X9_faultNow
set_option maxRecDepth 20000 in
theorem ggX9_cliqueNow_X9_has : GoodIn wsX9_cliqueNow wsX9_has := goodIn_r _ [23] (by decide +kernel) (by decide +kernel)
set_option maxRecDepth 20000 in
theorem gX9_cliqueNow_X9_has : GoodIn wsX9_cliqueNow (va_wsS RX9 69 yX9_has wsX9_has) := goodIn_app (goodIn_of _ (by decide +kernel)) ggX9_cliqueNow_X9_has
set_option maxRecDepth 20000 in
theorem ggX9_cliqueNow_X9_sizeOf : GoodIn wsX9_cliqueNow wsX9_sizeOf := goodIn_r _ [42] (by decide +kernel) (by decide +kernel)
set_option maxRecDepth 20000 in
theorem gX9_cliqueNow_X9_sizeOf : GoodIn wsX9_cliqueNow (va_wsS RX9 85 yX9_sizeOf wsX9_sizeOf) := goodIn_app (goodIn_of _ (by decide +kernel)) ggX9_cliqueNow_X9_sizeOf
theorem dX9_cliqueNow_0 : decode cX9_cliqueNow 0 = .ok (.aload_n 0, 1) := by decide +kernel
theorem dX9_cliqueNow_1 : decode cX9_cliqueNow 1 = .ok (.invokevirtual 139, 3) := by decide +kernel
theorem dX9_cliqueNow_4 : decode cX9_cliqueNow 4 = .ok (.iconst (-1), 1) := by decide +kernel
theorem dX9_cliqueNow_5 : decode cX9_cliqueNow 5 = .ok (.if_icmp .eq 5, 3) := by decide +kernel
theorem dX9_cliqueNow_8 : decode cX9_cliqueNow 8 = .ok (.iconst (-1), 1) := by decide +kernel
theorem dX9_cliqueNow_9 : decode cX9_cliqueNow 9 = .ok (.ireturn, 1) := by decide +kernel
theorem dX9_cliqueNow_10 : decode cX9_cliqueNow 10 = .ok (.iconst 0, 1) := by decide +kernel
theorem dX9_cliqueNow_11 : decode cX9_cliqueNow 11 = .ok (.istore_n 1, 1) := by decide +kernel
theorem dX9_cliqueNow_12 : decode cX9_cliqueNow 12 = .ok (.iconst 0, 1) := by decide +kernel
theorem dX9_cliqueNow_13 : decode cX9_cliqueNow 13 = .ok (.istore_n 2, 1) := by decide +kernel
theorem dX9_cliqueNow_14 : decode cX9_cliqueNow 14 = .ok (.iload_n 2, 1) := by decide +kernel
theorem dX9_cliqueNow_15 : decode cX9_cliqueNow 15 = .ok (.iconst 1, 1) := by decide +kernel
theorem dX9_cliqueNow_16 : decode cX9_cliqueNow 16 = .ok (.aload_n 0, 1) := by decide +kernel
theorem dX9_cliqueNow_17 : decode cX9_cliqueNow 17 = .ok (.getfield 7, 3) := by decide +kernel
theorem dX9_cliqueNow_20 : decode cX9_cliqueNow 20 = .ok (.iconst 0, 1) := by decide +kernel
theorem dX9_cliqueNow_21 : decode cX9_cliqueNow 21 = .ok (.iaload, 1) := by decide +kernel
theorem dX9_cliqueNow_22 : decode cX9_cliqueNow 22 = .ok (.ishl, 1) := by decide +kernel
theorem dX9_cliqueNow_23 : decode cX9_cliqueNow 23 = .ok (.if_icmp .ge 95, 3) := by decide +kernel
theorem dX9_cliqueNow_26 : decode cX9_cliqueNow 26 = .ok (.iconst 1, 1) := by decide +kernel
theorem dX9_cliqueNow_27 : decode cX9_cliqueNow 27 = .ok (.istore_n 3, 1) := by decide +kernel
theorem dX9_cliqueNow_28 : decode cX9_cliqueNow 28 = .ok (.iconst 0, 1) := by decide +kernel
theorem dX9_cliqueNow_29 : decode cX9_cliqueNow 29 = .ok (.istore 4, 2) := by decide +kernel
theorem dX9_cliqueNow_31 : decode cX9_cliqueNow 31 = .ok (.iload 4, 2) := by decide +kernel
theorem dX9_cliqueNow_33 : decode cX9_cliqueNow 33 = .ok (.aload_n 0, 1) := by decide +kernel
theorem dX9_cliqueNow_34 : decode cX9_cliqueNow 34 = .ok (.getfield 7, 3) := by decide +kernel
theorem dX9_cliqueNow_37 : decode cX9_cliqueNow 37 = .ok (.iconst 0, 1) := by decide +kernel
theorem dX9_cliqueNow_38 : decode cX9_cliqueNow 38 = .ok (.iaload, 1) := by decide +kernel
theorem dX9_cliqueNow_39 : decode cX9_cliqueNow 39 = .ok (.if_icmp .ge 52, 3) := by decide +kernel
theorem dX9_cliqueNow_42 : decode cX9_cliqueNow 42 = .ok (.iload_n 3, 1) := by decide +kernel
theorem dX9_cliqueNow_43 : decode cX9_cliqueNow 43 = .ok (.ifCond .eq 48, 3) := by decide +kernel
theorem dX9_cliqueNow_46 : decode cX9_cliqueNow 46 = .ok (.iload_n 2, 1) := by decide +kernel
theorem dX9_cliqueNow_47 : decode cX9_cliqueNow 47 = .ok (.iload 4, 2) := by decide +kernel
theorem dX9_cliqueNow_49 : decode cX9_cliqueNow 49 = .ok (.invokestatic 69, 3) := by decide +kernel
theorem dX9_cliqueNow_52 : decode cX9_cliqueNow 52 = .ok (.ifCond .eq 27, 3) := by decide +kernel
theorem dX9_cliqueNow_55 : decode cX9_cliqueNow 55 = .ok (.iload_n 2, 1) := by decide +kernel
theorem dX9_cliqueNow_56 : decode cX9_cliqueNow 56 = .ok (.iconst 1, 1) := by decide +kernel
theorem dX9_cliqueNow_57 : decode cX9_cliqueNow 57 = .ok (.iload 4, 2) := by decide +kernel
theorem dX9_cliqueNow_59 : decode cX9_cliqueNow 59 = .ok (.ishl, 1) := by decide +kernel
theorem dX9_cliqueNow_60 : decode cX9_cliqueNow 60 = .ok (.iconst (-1), 1) := by decide +kernel
theorem dX9_cliqueNow_61 : decode cX9_cliqueNow 61 = .ok (.ixor, 1) := by decide +kernel
theorem dX9_cliqueNow_62 : decode cX9_cliqueNow 62 = .ok (.iand, 1) := by decide +kernel
theorem dX9_cliqueNow_63 : decode cX9_cliqueNow 63 = .ok (.aload_n 0, 1) := by decide +kernel
theorem dX9_cliqueNow_64 : decode cX9_cliqueNow 64 = .ok (.getfield 7, 3) := by decide +kernel
theorem dX9_cliqueNow_67 : decode cX9_cliqueNow 67 = .ok (.bipush 16, 2) := by decide +kernel
theorem dX9_cliqueNow_69 : decode cX9_cliqueNow 69 = .ok (.iload 4, 2) := by decide +kernel
theorem dX9_cliqueNow_71 : decode cX9_cliqueNow 71 = .ok (.iadd, 1) := by decide +kernel
theorem dX9_cliqueNow_72 : decode cX9_cliqueNow 72 = .ok (.iaload, 1) := by decide +kernel
theorem dX9_cliqueNow_73 : decode cX9_cliqueNow 73 = .ok (.iconst (-1), 1) := by decide +kernel
theorem dX9_cliqueNow_74 : decode cX9_cliqueNow 74 = .ok (.ixor, 1) := by decide +kernel
theorem dX9_cliqueNow_75 : decode cX9_cliqueNow 75 = .ok (.iand, 1) := by decide +kernel
theorem dX9_cliqueNow_76 : decode cX9_cliqueNow 76 = .ok (.ifCond .ne 7, 3) := by decide +kernel
theorem dX9_cliqueNow_79 : decode cX9_cliqueNow 79 = .ok (.iconst 1, 1) := by decide +kernel
theorem dX9_cliqueNow_80 : decode cX9_cliqueNow 80 = .ok (.goto 4, 3) := by decide +kernel
theorem dX9_cliqueNow_83 : decode cX9_cliqueNow 83 = .ok (.iconst 0, 1) := by decide +kernel
theorem dX9_cliqueNow_84 : decode cX9_cliqueNow 84 = .ok (.istore_n 3, 1) := by decide +kernel
theorem dX9_cliqueNow_85 : decode cX9_cliqueNow 85 = .ok (.iinc 4 1, 3) := by decide +kernel
theorem dX9_cliqueNow_88 : decode cX9_cliqueNow 88 = .ok (.goto (-57), 3) := by decide +kernel
theorem dX9_cliqueNow_91 : decode cX9_cliqueNow 91 = .ok (.iload_n 3, 1) := by decide +kernel
theorem dX9_cliqueNow_92 : decode cX9_cliqueNow 92 = .ok (.ifCond .eq 18, 3) := by decide +kernel
theorem dX9_cliqueNow_95 : decode cX9_cliqueNow 95 = .ok (.iload_n 2, 1) := by decide +kernel
theorem dX9_cliqueNow_96 : decode cX9_cliqueNow 96 = .ok (.invokestatic 85, 3) := by decide +kernel
theorem dX9_cliqueNow_99 : decode cX9_cliqueNow 99 = .ok (.iload_n 1, 1) := by decide +kernel
theorem dX9_cliqueNow_100 : decode cX9_cliqueNow 100 = .ok (.if_icmp .le 10, 3) := by decide +kernel
theorem dX9_cliqueNow_103 : decode cX9_cliqueNow 103 = .ok (.iload_n 2, 1) := by decide +kernel
theorem dX9_cliqueNow_104 : decode cX9_cliqueNow 104 = .ok (.invokestatic 85, 3) := by decide +kernel
theorem dX9_cliqueNow_107 : decode cX9_cliqueNow 107 = .ok (.goto 4, 3) := by decide +kernel
theorem dX9_cliqueNow_110 : decode cX9_cliqueNow 110 = .ok (.iload_n 1, 1) := by decide +kernel
theorem dX9_cliqueNow_111 : decode cX9_cliqueNow 111 = .ok (.istore_n 1, 1) := by decide +kernel
theorem dX9_cliqueNow_112 : decode cX9_cliqueNow 112 = .ok (.iinc 2 1, 3) := by decide +kernel
theorem dX9_cliqueNow_115 : decode cX9_cliqueNow 115 = .ok (.goto (-101), 3) := by decide +kernel
theorem dX9_cliqueNow_118 : decode cX9_cliqueNow 118 = .ok (.iload_n 1, 1) := by decide +kernel
theorem dX9_cliqueNow_119 : decode cX9_cliqueNow 119 = .ok (.ireturn, 1) := by decide +kernel
set_option maxRecDepth 20000 in
theorem ggX9_edgesNow_X9_sizeOf : GoodIn wsX9_edgesNow wsX9_sizeOf := goodIn_r _ [5] (by decide +kernel) (by decide +kernel)
set_option maxRecDepth 20000 in
theorem gX9_edgesNow_X9_sizeOf : GoodIn wsX9_edgesNow (va_wsS RX9 85 yX9_sizeOf wsX9_sizeOf) := goodIn_app (goodIn_of _ (by decide +kernel)) ggX9_edgesNow_X9_sizeOf
theorem dX9_edgesNow_0 : decode cX9_edgesNow 0 = .ok (.iconst 0, 1) := by decide +kernel
theorem dX9_edgesNow_1 : decode cX9_edgesNow 1 = .ok (.istore_n 1, 1) := by decide +kernel
theorem dX9_edgesNow_2 : decode cX9_edgesNow 2 = .ok (.iconst 0, 1) := by decide +kernel
theorem dX9_edgesNow_3 : decode cX9_edgesNow 3 = .ok (.istore_n 2, 1) := by decide +kernel
theorem dX9_edgesNow_4 : decode cX9_edgesNow 4 = .ok (.iload_n 2, 1) := by decide +kernel
theorem dX9_edgesNow_5 : decode cX9_edgesNow 5 = .ok (.aload_n 0, 1) := by decide +kernel
theorem dX9_edgesNow_6 : decode cX9_edgesNow 6 = .ok (.getfield 7, 3) := by decide +kernel
theorem dX9_edgesNow_9 : decode cX9_edgesNow 9 = .ok (.iconst 0, 1) := by decide +kernel
theorem dX9_edgesNow_10 : decode cX9_edgesNow 10 = .ok (.iaload, 1) := by decide +kernel
theorem dX9_edgesNow_11 : decode cX9_edgesNow 11 = .ok (.if_icmp .ge 24, 3) := by decide +kernel
theorem dX9_edgesNow_14 : decode cX9_edgesNow 14 = .ok (.iload_n 1, 1) := by decide +kernel
theorem dX9_edgesNow_15 : decode cX9_edgesNow 15 = .ok (.aload_n 0, 1) := by decide +kernel
theorem dX9_edgesNow_16 : decode cX9_edgesNow 16 = .ok (.getfield 7, 3) := by decide +kernel
theorem dX9_edgesNow_19 : decode cX9_edgesNow 19 = .ok (.bipush 16, 2) := by decide +kernel
theorem dX9_edgesNow_21 : decode cX9_edgesNow 21 = .ok (.iload_n 2, 1) := by decide +kernel
theorem dX9_edgesNow_22 : decode cX9_edgesNow 22 = .ok (.iadd, 1) := by decide +kernel
theorem dX9_edgesNow_23 : decode cX9_edgesNow 23 = .ok (.iaload, 1) := by decide +kernel
theorem dX9_edgesNow_24 : decode cX9_edgesNow 24 = .ok (.invokestatic 85, 3) := by decide +kernel
theorem dX9_edgesNow_27 : decode cX9_edgesNow 27 = .ok (.iadd, 1) := by decide +kernel
theorem dX9_edgesNow_28 : decode cX9_edgesNow 28 = .ok (.istore_n 1, 1) := by decide +kernel
theorem dX9_edgesNow_29 : decode cX9_edgesNow 29 = .ok (.iinc 2 1, 3) := by decide +kernel
theorem dX9_edgesNow_32 : decode cX9_edgesNow 32 = .ok (.goto (-28), 3) := by decide +kernel
theorem dX9_edgesNow_35 : decode cX9_edgesNow 35 = .ok (.iload_n 1, 1) := by decide +kernel
theorem dX9_edgesNow_36 : decode cX9_edgesNow 36 = .ok (.iconst 2, 1) := by decide +kernel
theorem dX9_edgesNow_37 : decode cX9_edgesNow 37 = .ok (.idiv, 1) := by decide +kernel
theorem dX9_edgesNow_38 : decode cX9_edgesNow 38 = .ok (.ireturn, 1) := by decide +kernel
set_option maxRecDepth 20000 in
theorem ggX9_wrongNow_X9_isItem : GoodIn wsX9_wrongNow wsX9_isItem := goodIn_r _ [9, 3, 10, 11, 8, 12, 13, 14, 15, 16, 17, 18, 19, 20, 21, 22, 23, 24, 25, 26, 27, 28, 29] (by decide +kernel) (by decide +kernel)
set_option maxRecDepth 20000 in
theorem gX9_wrongNow_X9_isItem : GoodIn wsX9_wrongNow (wsV RX9 89 RX9 yX9_isItem wsX9_isItem) := goodIn_app (goodIn_of _ (by decide +kernel)) ggX9_wrongNow_X9_isItem
theorem dX9_wrongNow_0 : decode cX9_wrongNow 0 = .ok (.iconst 0, 1) := by decide +kernel
theorem dX9_wrongNow_1 : decode cX9_wrongNow 1 = .ok (.istore_n 1, 1) := by decide +kernel
theorem dX9_wrongNow_2 : decode cX9_wrongNow 2 = .ok (.iload_n 1, 1) := by decide +kernel
theorem dX9_wrongNow_3 : decode cX9_wrongNow 3 = .ok (.aload_n 0, 1) := by decide +kernel
theorem dX9_wrongNow_4 : decode cX9_wrongNow 4 = .ok (.getfield 143, 3) := by decide +kernel
theorem dX9_wrongNow_7 : decode cX9_wrongNow 7 = .ok (.if_icmp .ge 47, 3) := by decide +kernel
theorem dX9_wrongNow_10 : decode cX9_wrongNow 10 = .ok (.aload_n 0, 1) := by decide +kernel
theorem dX9_wrongNow_11 : decode cX9_wrongNow 11 = .ok (.aload_n 0, 1) := by decide +kernel
theorem dX9_wrongNow_12 : decode cX9_wrongNow 12 = .ok (.getfield 23, 3) := by decide +kernel
theorem dX9_wrongNow_15 : decode cX9_wrongNow 15 = .ok (.iload_n 1, 1) := by decide +kernel
theorem dX9_wrongNow_16 : decode cX9_wrongNow 16 = .ok (.iaload, 1) := by decide +kernel
theorem dX9_wrongNow_17 : decode cX9_wrongNow 17 = .ok (.invokevirtual 89, 3) := by decide +kernel
theorem dX9_wrongNow_20 : decode cX9_wrongNow 20 = .ok (.ifCond .eq 26, 3) := by decide +kernel
theorem dX9_wrongNow_23 : decode cX9_wrongNow 23 = .ok (.aload_n 0, 1) := by decide +kernel
theorem dX9_wrongNow_24 : decode cX9_wrongNow 24 = .ok (.getfield 7, 3) := by decide +kernel
theorem dX9_wrongNow_27 : decode cX9_wrongNow 27 = .ok (.bipush 64, 2) := by decide +kernel
theorem dX9_wrongNow_29 : decode cX9_wrongNow 29 = .ok (.aload_n 0, 1) := by decide +kernel
theorem dX9_wrongNow_30 : decode cX9_wrongNow 30 = .ok (.getfield 23, 3) := by decide +kernel
theorem dX9_wrongNow_33 : decode cX9_wrongNow 33 = .ok (.iload_n 1, 1) := by decide +kernel
theorem dX9_wrongNow_34 : decode cX9_wrongNow 34 = .ok (.iaload, 1) := by decide +kernel
theorem dX9_wrongNow_35 : decode cX9_wrongNow 35 = .ok (.iadd, 1) := by decide +kernel
theorem dX9_wrongNow_36 : decode cX9_wrongNow 36 = .ok (.iaload, 1) := by decide +kernel
theorem dX9_wrongNow_37 : decode cX9_wrongNow 37 = .ok (.aload_n 0, 1) := by decide +kernel
theorem dX9_wrongNow_38 : decode cX9_wrongNow 38 = .ok (.getfield 26, 3) := by decide +kernel
theorem dX9_wrongNow_41 : decode cX9_wrongNow 41 = .ok (.iload_n 1, 1) := by decide +kernel
theorem dX9_wrongNow_42 : decode cX9_wrongNow 42 = .ok (.iaload, 1) := by decide +kernel
theorem dX9_wrongNow_43 : decode cX9_wrongNow 43 = .ok (.if_icmp .eq 5, 3) := by decide +kernel
theorem dX9_wrongNow_46 : decode cX9_wrongNow 46 = .ok (.iload_n 1, 1) := by decide +kernel
theorem dX9_wrongNow_47 : decode cX9_wrongNow 47 = .ok (.ireturn, 1) := by decide +kernel
theorem dX9_wrongNow_48 : decode cX9_wrongNow 48 = .ok (.iinc 1 1, 3) := by decide +kernel
theorem dX9_wrongNow_51 : decode cX9_wrongNow 51 = .ok (.goto (-49), 3) := by decide +kernel
theorem dX9_wrongNow_54 : decode cX9_wrongNow 54 = .ok (.iconst (-1), 1) := by decide +kernel
theorem dX9_wrongNow_55 : decode cX9_wrongNow 55 = .ok (.ireturn, 1) := by decide +kernel
set_option maxRecDepth 20000 in
theorem ggX9_told_X9_classes : GoodIn wsX9_told wsX9_classes := goodIn_r _ [10, 1, 110, 111, 112, 113, 114, 115, 116, 117, 118, 119, 120, 121, 122, 123, 124, 125, 126] (by decide +kernel) (by decide +kernel)
set_option maxRecDepth 20000 in
theorem gX9_told_X9_classes : GoodIn wsX9_told (wsV RX9 73 RX9 yX9_classes wsX9_classes) := goodIn_app (goodIn_of _ (by decide +kernel)) ggX9_told_X9_classes
set_option maxRecDepth 20000 in
theorem ggX9_told_X9_edgesNow : GoodIn wsX9_told wsX9_edgesNow := goodIn_r _ [14, 1, 15, 16, 9, 17, 110, 111, 112, 113, 114, 115, 116, 117, 118, 119, 120, 121, 122, 123, 124, 125, 126] (by decide +kernel) (by decide +kernel)
set_option maxRecDepth 20000 in
theorem gX9_told_X9_edgesNow : GoodIn wsX9_told (wsV RX9 146 RX9 yX9_edgesNow wsX9_edgesNow) := goodIn_app (goodIn_of _ (by decide +kernel)) ggX9_told_X9_edgesNow
set_option maxRecDepth 20000 in
theorem ggX9_told_X9_refinedMany : GoodIn wsX9_told wsX9_refinedMany := goodIn_r _ [21, 22, 23, 24, 25, 9, 26, 27, 28, 29, 30, 1, 31, 32, 33, 34, 35, 36, 37, 38, 39, 40, 41, 42, 43, 44, 15, 16, 17, 45, 46, 47, 48, 49, 50, 51, 52, 53, 54, 55, 56, 57, 58, 59, 60, 61, 62, 63, 64, 65, 66, 67, 68, 69, 70, 71, 72, 73, 74, 75, 76, 77, 78, 79, 6, 7, 8, 10, 110, 111, 112, 113, 114, 115, 116, 117, 118, 119, 120, 121, 122, 123, 124, 125, 126] (by decide +kernel) (by decide +kernel)
set_option maxRecDepth 20000 in
theorem gX9_told_X9_refinedMany : GoodIn wsX9_told (wsV RX9 149 RX9 yX9_refinedMany wsX9_refinedMany) := goodIn_app (goodIn_of _ (by decide +kernel)) ggX9_told_X9_refinedMany
set_option maxRecDepth 20000 in
theorem ggX9_told_X9_faultNow : GoodIn wsX9_told wsX9_faultNow := goodIn_r _ [83, 1, 84, 85, 86, 87, 9, 88, 22, 52, 53, 54, 55, 89, 90, 91, 92, 38, 39, 40, 76, 77, 78, 79, 37, 6, 7, 8, 10, 45, 46, 47, 56, 57, 58, 59, 110, 111, 112, 113, 114, 115, 116, 117, 118, 119, 120, 121, 122, 123, 124, 125, 126] (by decide +kernel) (by decide +kernel)
set_option maxRecDepth 20000 in
theorem gX9_told_X9_faultNow : GoodIn wsX9_told (wsV RX9 139 RX9 yX9_faultNow wsX9_faultNow) := goodIn_app (goodIn_of _ (by decide +kernel)) ggX9_told_X9_faultNow
set_option maxRecDepth 20000 in
theorem ggX9_told_X9_cliqueNow : GoodIn wsX9_told wsX9_cliqueNow := goodIn_r _ [96, 1, 80, 81, 82, 9, 83, 84, 85, 86, 87, 88, 22, 52, 53, 54, 55, 89, 90, 91, 92, 38, 39, 40, 76, 77, 78, 79, 37, 6, 7, 8, 10, 45, 46, 47, 56, 57, 58, 59, 15, 16, 17, 110, 111, 112, 113, 114, 115, 116, 117, 118, 119, 120, 121, 122, 123, 124, 125, 126] (by decide +kernel) (by decide +kernel)
set_option maxRecDepth 20000 in
theorem gX9_told_X9_cliqueNow : GoodIn wsX9_told (wsV RX9 152 RX9 yX9_cliqueNow wsX9_cliqueNow) := goodIn_app (goodIn_of _ (by decide +kernel)) ggX9_told_X9_cliqueNow
set_option maxRecDepth 20000 in
theorem ggX9_told_X9_wrongNow : GoodIn wsX9_told wsX9_wrongNow := goodIn_r _ [100, 2, 101, 1, 102, 103, 104, 105, 9, 106, 107, 108, 109, 110, 111, 112, 113, 114, 115, 116, 117, 118, 119, 120, 121, 122, 123, 124, 125, 126] (by decide +kernel) (by decide +kernel)
set_option maxRecDepth 20000 in
theorem gX9_told_X9_wrongNow : GoodIn wsX9_told (wsV RX9 155 RX9 yX9_wrongNow wsX9_wrongNow) := goodIn_app (goodIn_of _ (by decide +kernel)) ggX9_told_X9_wrongNow
theorem dX9_told_0 : decode cX9_told 0 = .ok (.iload_n 1, 1) := by decide +kernel
theorem dX9_told_1 : decode cX9_told 1 = .ok (.tableswitch 166 0 16 #[83, 90, 101, 108, 113, 120, 127, 127, 127, 127, 127, 136, 141, 146, 151, 156, 161], 83) := by decide +kernel
theorem dX9_told_84 : decode cX9_told 84 = .ok (.aload_n 0, 1) := by decide +kernel
theorem dX9_told_85 : decode cX9_told 85 = .ok (.getfield 7, 3) := by decide +kernel
theorem dX9_told_88 : decode cX9_told 88 = .ok (.iconst 0, 1) := by decide +kernel
theorem dX9_told_89 : decode cX9_told 89 = .ok (.iaload, 1) := by decide +kernel
theorem dX9_told_90 : decode cX9_told 90 = .ok (.ireturn, 1) := by decide +kernel
theorem dX9_told_91 : decode cX9_told 91 = .ok (.aload_n 0, 1) := by decide +kernel
theorem dX9_told_92 : decode cX9_told 92 = .ok (.aload_n 0, 1) := by decide +kernel
theorem dX9_told_93 : decode cX9_told 93 = .ok (.getfield 7, 3) := by decide +kernel
theorem dX9_told_96 : decode cX9_told 96 = .ok (.bipush 64, 2) := by decide +kernel
theorem dX9_told_98 : decode cX9_told 98 = .ok (.invokevirtual 73, 3) := by decide +kernel
theorem dX9_told_101 : decode cX9_told 101 = .ok (.ireturn, 1) := by decide +kernel
theorem dX9_told_102 : decode cX9_told 102 = .ok (.aload_n 0, 1) := by decide +kernel
theorem dX9_told_103 : decode cX9_told 103 = .ok (.getfield 7, 3) := by decide +kernel
theorem dX9_told_106 : decode cX9_told 106 = .ok (.iconst 3, 1) := by decide +kernel
theorem dX9_told_107 : decode cX9_told 107 = .ok (.iaload, 1) := by decide +kernel
theorem dX9_told_108 : decode cX9_told 108 = .ok (.ireturn, 1) := by decide +kernel
theorem dX9_told_109 : decode cX9_told 109 = .ok (.aload_n 0, 1) := by decide +kernel
theorem dX9_told_110 : decode cX9_told 110 = .ok (.invokevirtual 146, 3) := by decide +kernel
theorem dX9_told_113 : decode cX9_told 113 = .ok (.ireturn, 1) := by decide +kernel
theorem dX9_told_114 : decode cX9_told 114 = .ok (.aload_n 0, 1) := by decide +kernel
theorem dX9_told_115 : decode cX9_told 115 = .ok (.getfield 7, 3) := by decide +kernel
theorem dX9_told_118 : decode cX9_told 118 = .ok (.iconst 1, 1) := by decide +kernel
theorem dX9_told_119 : decode cX9_told 119 = .ok (.iaload, 1) := by decide +kernel
theorem dX9_told_120 : decode cX9_told 120 = .ok (.ireturn, 1) := by decide +kernel
theorem dX9_told_121 : decode cX9_told 121 = .ok (.aload_n 0, 1) := by decide +kernel
theorem dX9_told_122 : decode cX9_told 122 = .ok (.getfield 7, 3) := by decide +kernel
theorem dX9_told_125 : decode cX9_told 125 = .ok (.iconst 2, 1) := by decide +kernel
theorem dX9_told_126 : decode cX9_told 126 = .ok (.iaload, 1) := by decide +kernel
theorem dX9_told_127 : decode cX9_told 127 = .ok (.ireturn, 1) := by decide +kernel
theorem dX9_told_128 : decode cX9_told 128 = .ok (.aload_n 0, 1) := by decide +kernel
theorem dX9_told_129 : decode cX9_told 129 = .ok (.iload_n 1, 1) := by decide +kernel
theorem dX9_told_130 : decode cX9_told 130 = .ok (.bipush 6, 2) := by decide +kernel
theorem dX9_told_132 : decode cX9_told 132 = .ok (.isub, 1) := by decide +kernel
theorem dX9_told_133 : decode cX9_told 133 = .ok (.invokevirtual 149, 3) := by decide +kernel
theorem dX9_told_136 : decode cX9_told 136 = .ok (.ireturn, 1) := by decide +kernel
theorem dX9_told_137 : decode cX9_told 137 = .ok (.aload_n 0, 1) := by decide +kernel
theorem dX9_told_138 : decode cX9_told 138 = .ok (.invokevirtual 139, 3) := by decide +kernel
theorem dX9_told_141 : decode cX9_told 141 = .ok (.ireturn, 1) := by decide +kernel
theorem dX9_told_142 : decode cX9_told 142 = .ok (.aload_n 0, 1) := by decide +kernel
theorem dX9_told_143 : decode cX9_told 143 = .ok (.invokevirtual 152, 3) := by decide +kernel
theorem dX9_told_146 : decode cX9_told 146 = .ok (.ireturn, 1) := by decide +kernel
theorem dX9_told_147 : decode cX9_told 147 = .ok (.aload_n 0, 1) := by decide +kernel
theorem dX9_told_148 : decode cX9_told 148 = .ok (.getfield 143, 3) := by decide +kernel
theorem dX9_told_151 : decode cX9_told 151 = .ok (.ireturn, 1) := by decide +kernel
theorem dX9_told_152 : decode cX9_told 152 = .ok (.aload_n 0, 1) := by decide +kernel
theorem dX9_told_153 : decode cX9_told 153 = .ok (.invokevirtual 155, 3) := by decide +kernel
theorem dX9_told_156 : decode cX9_told 156 = .ok (.ireturn, 1) := by decide +kernel
theorem dX9_told_157 : decode cX9_told 157 = .ok (.aload_n 0, 1) := by decide +kernel
theorem dX9_told_158 : decode cX9_told 158 = .ok (.getfield 61, 3) := by decide +kernel
theorem dX9_told_161 : decode cX9_told 161 = .ok (.ireturn, 1) := by decide +kernel
theorem dX9_told_162 : decode cX9_told 162 = .ok (.aload_n 0, 1) := by decide +kernel
theorem dX9_told_163 : decode cX9_told 163 = .ok (.getfield 158, 3) := by decide +kernel
theorem dX9_told_166 : decode cX9_told 166 = .ok (.ireturn, 1) := by decide +kernel
theorem dX9_told_167 : decode cX9_told 167 = .ok (.ldc 94, 2) := by decide +kernel
theorem dX9_told_169 : decode cX9_told 169 = .ok (.ireturn, 1) := by decide +kernel
set_option maxRecDepth 20000 in
theorem ggX9_item_X9_isItem : GoodIn wsX9_item wsX9_isItem := goodIn_r _ [8, 2, 9, 10, 7, 11, 19, 20, 21, 22, 23, 24, 25, 26, 27, 28, 29, 30, 31, 32, 33, 34, 35] (by decide +kernel) (by decide +kernel)
set_option maxRecDepth 20000 in
theorem gX9_item_X9_isItem : GoodIn wsX9_item (wsV RX9 89 RX9 yX9_isItem wsX9_isItem) := goodIn_app (goodIn_of _ (by decide +kernel)) ggX9_item_X9_isItem
set_option maxRecDepth 20000 in
theorem ggX9_item_X9_membersOf : GoodIn wsX9_item wsX9_membersOf := goodIn_r _ [15, 2, 19, 20, 21, 22, 23, 24, 25, 26, 27, 28, 29, 30, 31, 32, 33, 34, 35] (by decide +kernel) (by decide +kernel)
set_option maxRecDepth 20000 in
theorem gX9_item_X9_membersOf : GoodIn wsX9_item (wsV RX9 77 RX9 yX9_membersOf wsX9_membersOf) := goodIn_app (goodIn_of _ (by decide +kernel)) ggX9_item_X9_membersOf
set_option maxRecDepth 20000 in
theorem ggX9_item_X9_sizeOf : GoodIn wsX9_item wsX9_sizeOf := goodIn_r _ [18] (by decide +kernel) (by decide +kernel)
set_option maxRecDepth 20000 in
theorem gX9_item_X9_sizeOf : GoodIn wsX9_item (va_wsS RX9 85 yX9_sizeOf wsX9_sizeOf) := goodIn_app (goodIn_of _ (by decide +kernel)) ggX9_item_X9_sizeOf
theorem dX9_item_0 : decode cX9_item 0 = .ok (.aload_n 0, 1) := by decide +kernel
theorem dX9_item_1 : decode cX9_item 1 = .ok (.iload_n 1, 1) := by decide +kernel
theorem dX9_item_2 : decode cX9_item 2 = .ok (.invokevirtual 89, 3) := by decide +kernel
theorem dX9_item_5 : decode cX9_item 5 = .ok (.ifCond .ne 6, 3) := by decide +kernel
theorem dX9_item_8 : decode cX9_item 8 = .ok (.ldc 93, 2) := by decide +kernel
theorem dX9_item_10 : decode cX9_item 10 = .ok (.ireturn, 1) := by decide +kernel
theorem dX9_item_11 : decode cX9_item 11 = .ok (.iload_n 2, 1) := by decide +kernel
theorem dX9_item_12 : decode cX9_item 12 = .ok (.tableswitch 128 0 6 #[44, 53, 63, 73, 96, 96, 96], 44) := by decide +kernel
theorem dX9_item_56 : decode cX9_item 56 = .ok (.aload_n 0, 1) := by decide +kernel
theorem dX9_item_57 : decode cX9_item 57 = .ok (.getfield 7, 3) := by decide +kernel
theorem dX9_item_60 : decode cX9_item 60 = .ok (.iconst 4, 1) := by decide +kernel
theorem dX9_item_61 : decode cX9_item 61 = .ok (.iload_n 1, 1) := by decide +kernel
theorem dX9_item_62 : decode cX9_item 62 = .ok (.iadd, 1) := by decide +kernel
theorem dX9_item_63 : decode cX9_item 63 = .ok (.iaload, 1) := by decide +kernel
theorem dX9_item_64 : decode cX9_item 64 = .ok (.ireturn, 1) := by decide +kernel
theorem dX9_item_65 : decode cX9_item 65 = .ok (.aload_n 0, 1) := by decide +kernel
theorem dX9_item_66 : decode cX9_item 66 = .ok (.getfield 7, 3) := by decide +kernel
theorem dX9_item_69 : decode cX9_item 69 = .ok (.bipush 16, 2) := by decide +kernel
theorem dX9_item_71 : decode cX9_item 71 = .ok (.iload_n 1, 1) := by decide +kernel
theorem dX9_item_72 : decode cX9_item 72 = .ok (.iadd, 1) := by decide +kernel
theorem dX9_item_73 : decode cX9_item 73 = .ok (.iaload, 1) := by decide +kernel
theorem dX9_item_74 : decode cX9_item 74 = .ok (.ireturn, 1) := by decide +kernel
theorem dX9_item_75 : decode cX9_item 75 = .ok (.aload_n 0, 1) := by decide +kernel
theorem dX9_item_76 : decode cX9_item 76 = .ok (.getfield 7, 3) := by decide +kernel
theorem dX9_item_79 : decode cX9_item 79 = .ok (.bipush 64, 2) := by decide +kernel
theorem dX9_item_81 : decode cX9_item 81 = .ok (.iload_n 1, 1) := by decide +kernel
theorem dX9_item_82 : decode cX9_item 82 = .ok (.iadd, 1) := by decide +kernel
theorem dX9_item_83 : decode cX9_item 83 = .ok (.iaload, 1) := by decide +kernel
theorem dX9_item_84 : decode cX9_item 84 = .ok (.ireturn, 1) := by decide +kernel
theorem dX9_item_85 : decode cX9_item 85 = .ok (.aload_n 0, 1) := by decide +kernel
theorem dX9_item_86 : decode cX9_item 86 = .ok (.aload_n 0, 1) := by decide +kernel
theorem dX9_item_87 : decode cX9_item 87 = .ok (.getfield 7, 3) := by decide +kernel
theorem dX9_item_90 : decode cX9_item 90 = .ok (.bipush 64, 2) := by decide +kernel
theorem dX9_item_92 : decode cX9_item 92 = .ok (.aload_n 0, 1) := by decide +kernel
theorem dX9_item_93 : decode cX9_item 93 = .ok (.getfield 7, 3) := by decide +kernel
theorem dX9_item_96 : decode cX9_item 96 = .ok (.bipush 64, 2) := by decide +kernel
theorem dX9_item_98 : decode cX9_item 98 = .ok (.iload_n 1, 1) := by decide +kernel
theorem dX9_item_99 : decode cX9_item 99 = .ok (.iadd, 1) := by decide +kernel
theorem dX9_item_100 : decode cX9_item 100 = .ok (.iaload, 1) := by decide +kernel
theorem dX9_item_101 : decode cX9_item 101 = .ok (.invokevirtual 77, 3) := by decide +kernel
theorem dX9_item_104 : decode cX9_item 104 = .ok (.invokestatic 85, 3) := by decide +kernel
theorem dX9_item_107 : decode cX9_item 107 = .ok (.ireturn, 1) := by decide +kernel
theorem dX9_item_108 : decode cX9_item 108 = .ok (.iload_n 2, 1) := by decide +kernel
theorem dX9_item_109 : decode cX9_item 109 = .ok (.iconst 4, 1) := by decide +kernel
theorem dX9_item_110 : decode cX9_item 110 = .ok (.isub, 1) := by decide +kernel
theorem dX9_item_111 : decode cX9_item 111 = .ok (.aload_n 0, 1) := by decide +kernel
theorem dX9_item_112 : decode cX9_item 112 = .ok (.getfield 7, 3) := by decide +kernel
theorem dX9_item_115 : decode cX9_item 115 = .ok (.iconst 1, 1) := by decide +kernel
end
section
theorem dX9_item_116 : decode cX9_item 116 = .ok (.iaload, 1) := by decide +kernel
theorem dX9_item_117 : decode cX9_item 117 = .ok (.if_icmp .ge 21, 3) := by decide +kernel
theorem dX9_item_120 : decode cX9_item 120 = .ok (.aload_n 0, 1) := by decide +kernel
theorem dX9_item_121 : decode cX9_item 121 = .ok (.getfield 7, 3) := by decide +kernel
theorem dX9_item_124 : decode cX9_item 124 = .ok (.bipush 28, 2) := by decide +kernel
theorem dX9_item_126 : decode cX9_item 126 = .ok (.iconst 3, 1) := by decide +kernel
theorem dX9_item_127 : decode cX9_item 127 = .ok (.iload_n 1, 1) := by decide +kernel
theorem dX9_item_128 : decode cX9_item 128 = .ok (.imul, 1) := by decide +kernel
theorem dX9_item_129 : decode cX9_item 129 = .ok (.iadd, 1) := by decide +kernel
theorem dX9_item_130 : decode cX9_item 130 = .ok (.iload_n 2, 1) := by decide +kernel
theorem dX9_item_131 : decode cX9_item 131 = .ok (.iadd, 1) := by decide +kernel
theorem dX9_item_132 : decode cX9_item 132 = .ok (.iconst 4, 1) := by decide +kernel
theorem dX9_item_133 : decode cX9_item 133 = .ok (.isub, 1) := by decide +kernel
theorem dX9_item_134 : decode cX9_item 134 = .ok (.iaload, 1) := by decide +kernel
theorem dX9_item_135 : decode cX9_item 135 = .ok (.goto 4, 3) := by decide +kernel
theorem dX9_item_138 : decode cX9_item 138 = .ok (.iconst (-1), 1) := by decide +kernel
theorem dX9_item_139 : decode cX9_item 139 = .ok (.ireturn, 1) := by decide +kernel
theorem dX9_item_140 : decode cX9_item 140 = .ok (.ldc 94, 2) := by decide +kernel
theorem dX9_item_142 : decode cX9_item 142 = .ok (.ireturn, 1) := by decide +kernel
set_option maxRecDepth 20000 in
theorem ggX9_classAt_X9_classes : GoodIn wsX9_classAt wsX9_classes := goodIn_r _ [7, 1, 15, 16, 17, 18, 19, 20, 21, 22, 23, 24, 25, 26, 27, 28, 29, 30, 31] (by decide +kernel) (by decide +kernel)
set_option maxRecDepth 20000 in
theorem gX9_classAt_X9_classes : GoodIn wsX9_classAt (wsV RX9 73 RX9 yX9_classes wsX9_classes) := goodIn_app (goodIn_of _ (by decide +kernel)) ggX9_classAt_X9_classes
set_option maxRecDepth 20000 in
theorem ggX9_classAt_X9_in : GoodIn wsX9_classAt wsX9_in := goodIn_r _ [10] (by decide +kernel) (by decide +kernel)
set_option maxRecDepth 20000 in
theorem gX9_classAt_X9_in : GoodIn wsX9_classAt (va_wsS RX9 57 yX9_in wsX9_in) := goodIn_app (goodIn_of _ (by decide +kernel)) ggX9_classAt_X9_in
set_option maxRecDepth 20000 in
theorem ggX9_classAt_X9_membersOf : GoodIn wsX9_classAt wsX9_membersOf := goodIn_r _ [14, 1, 15, 16, 17, 18, 19, 20, 21, 22, 23, 24, 25, 26, 27, 28, 29, 30, 31] (by decide +kernel) (by decide +kernel)
set_option maxRecDepth 20000 in
theorem gX9_classAt_X9_membersOf : GoodIn wsX9_classAt (wsV RX9 77 RX9 yX9_membersOf wsX9_membersOf) := goodIn_app (goodIn_of _ (by decide +kernel)) ggX9_classAt_X9_membersOf
theorem dX9_classAt_0 : decode cX9_classAt 0 = .ok (.iload_n 1, 1) := by decide +kernel
theorem dX9_classAt_1 : decode cX9_classAt 1 = .ok (.iconst 0, 1) := by decide +kernel
theorem dX9_classAt_2 : decode cX9_classAt 2 = .ok (.aload_n 0, 1) := by decide +kernel
theorem dX9_classAt_3 : decode cX9_classAt 3 = .ok (.aload_n 0, 1) := by decide +kernel
theorem dX9_classAt_4 : decode cX9_classAt 4 = .ok (.getfield 7, 3) := by decide +kernel
theorem dX9_classAt_7 : decode cX9_classAt 7 = .ok (.bipush 64, 2) := by decide +kernel
theorem dX9_classAt_9 : decode cX9_classAt 9 = .ok (.invokevirtual 73, 3) := by decide +kernel
theorem dX9_classAt_12 : decode cX9_classAt 12 = .ok (.iconst 1, 1) := by decide +kernel
theorem dX9_classAt_13 : decode cX9_classAt 13 = .ok (.isub, 1) := by decide +kernel
theorem dX9_classAt_14 : decode cX9_classAt 14 = .ok (.invokestatic 57, 3) := by decide +kernel
theorem dX9_classAt_17 : decode cX9_classAt 17 = .ok (.ifCond .eq 17, 3) := by decide +kernel
theorem dX9_classAt_20 : decode cX9_classAt 20 = .ok (.aload_n 0, 1) := by decide +kernel
theorem dX9_classAt_21 : decode cX9_classAt 21 = .ok (.aload_n 0, 1) := by decide +kernel
theorem dX9_classAt_22 : decode cX9_classAt 22 = .ok (.getfield 7, 3) := by decide +kernel
theorem dX9_classAt_25 : decode cX9_classAt 25 = .ok (.bipush 64, 2) := by decide +kernel
theorem dX9_classAt_27 : decode cX9_classAt 27 = .ok (.iload_n 1, 1) := by decide +kernel
theorem dX9_classAt_28 : decode cX9_classAt 28 = .ok (.invokevirtual 77, 3) := by decide +kernel
theorem dX9_classAt_31 : decode cX9_classAt 31 = .ok (.goto 5, 3) := by decide +kernel
theorem dX9_classAt_34 : decode cX9_classAt 34 = .ok (.ldc 93, 2) := by decide +kernel
theorem dX9_classAt_36 : decode cX9_classAt 36 = .ok (.ireturn, 1) := by decide +kernel
set_option maxRecDepth 20000 in
theorem ggX9_items_X9_in : GoodIn wsX9_items wsX9_in := goodIn_r _ [6] (by decide +kernel) (by decide +kernel)
set_option maxRecDepth 20000 in
theorem gX9_items_X9_in : GoodIn wsX9_items (va_wsS RX9 57 yX9_in wsX9_in) := goodIn_app (goodIn_of _ (by decide +kernel)) ggX9_items_X9_in
set_option maxRecDepth 20000 in
theorem ggX9_items_X9_notes : GoodIn wsX9_items wsX9_notes := goodIn_r _ [10, 11, 12, 2, 13, 14, 5, 15, 20, 21, 22, 23, 24, 25, 26, 27, 28, 29, 30, 31, 32, 33, 34, 35, 36] (by decide +kernel) (by decide +kernel)
set_option maxRecDepth 20000 in
theorem gX9_items_X9_notes : GoodIn wsX9_items (wsV RX9 161 RX9 yX9_notes wsX9_notes) := goodIn_app (goodIn_of _ (by decide +kernel)) ggX9_items_X9_notes
set_option maxRecDepth 20000 in
theorem ggX9_items_X9_lays : GoodIn wsX9_items wsX9_lays := goodIn_r _ [19, 2, 20, 21, 22, 23, 24, 25, 26, 27, 28, 29, 30, 31, 32, 33, 34, 35, 36] (by decide +kernel) (by decide +kernel)
set_option maxRecDepth 20000 in
theorem gX9_items_X9_lays : GoodIn wsX9_items (wsV RX9 53 RX9 yX9_lays wsX9_lays) := goodIn_app (goodIn_of _ (by decide +kernel)) ggX9_items_X9_lays
theorem dX9_items_0 : decode cX9_items 0 = .ok (.iload_n 1, 1) := by decide +kernel
theorem dX9_items_1 : decode cX9_items 1 = .ok (.iconst 1, 1) := by decide +kernel
theorem dX9_items_2 : decode cX9_items 2 = .ok (.bipush 12, 2) := by decide +kernel
theorem dX9_items_4 : decode cX9_items 4 = .ok (.invokestatic 57, 3) := by decide +kernel
theorem dX9_items_7 : decode cX9_items 7 = .ok (.ifCond .ne 6, 3) := by decide +kernel
theorem dX9_items_10 : decode cX9_items 10 = .ok (.ldc 94, 2) := by decide +kernel
theorem dX9_items_12 : decode cX9_items 12 = .ok (.ireturn, 1) := by decide +kernel
theorem dX9_items_13 : decode cX9_items 13 = .ok (.aload_n 0, 1) := by decide +kernel
theorem dX9_items_14 : decode cX9_items 14 = .ok (.invokevirtual 161, 3) := by decide +kernel
theorem dX9_items_17 : decode cX9_items 17 = .ok (.aload_n 0, 1) := by decide +kernel
theorem dX9_items_18 : decode cX9_items 18 = .ok (.getfield 7, 3) := by decide +kernel
theorem dX9_items_21 : decode cX9_items 21 = .ok (.iconst 0, 1) := by decide +kernel
theorem dX9_items_22 : decode cX9_items 22 = .ok (.iaload, 1) := by decide +kernel
theorem dX9_items_23 : decode cX9_items 23 = .ok (.istore_n 2, 1) := by decide +kernel
theorem dX9_items_24 : decode cX9_items 24 = .ok (.aload_n 0, 1) := by decide +kernel
theorem dX9_items_25 : decode cX9_items 25 = .ok (.iload_n 1, 1) := by decide +kernel
theorem dX9_items_26 : decode cX9_items 26 = .ok (.invokevirtual 53, 3) := by decide +kernel
theorem dX9_items_29 : decode cX9_items 29 = .ok (.iload_n 2, 1) := by decide +kernel
theorem dX9_items_30 : decode cX9_items 30 = .ok (.ireturn, 1) := by decide +kernel
theorem dX9_turnsEdge_0 : decode cX9_turnsEdge 0 = .ok (.aload_n 0, 1) := by decide +kernel
theorem dX9_turnsEdge_1 : decode cX9_turnsEdge 1 = .ok (.getfield 7, 3) := by decide +kernel
theorem dX9_turnsEdge_4 : decode cX9_turnsEdge 4 = .ok (.bipush 16, 2) := by decide +kernel
theorem dX9_turnsEdge_6 : decode cX9_turnsEdge 6 = .ok (.iload_n 1, 1) := by decide +kernel
theorem dX9_turnsEdge_7 : decode cX9_turnsEdge 7 = .ok (.iadd, 1) := by decide +kernel
theorem dX9_turnsEdge_8 : decode cX9_turnsEdge 8 = .ok (.dup2, 1) := by decide +kernel
theorem dX9_turnsEdge_9 : decode cX9_turnsEdge 9 = .ok (.iaload, 1) := by decide +kernel
theorem dX9_turnsEdge_10 : decode cX9_turnsEdge 10 = .ok (.iconst 1, 1) := by decide +kernel
theorem dX9_turnsEdge_11 : decode cX9_turnsEdge 11 = .ok (.iload_n 2, 1) := by decide +kernel
theorem dX9_turnsEdge_12 : decode cX9_turnsEdge 12 = .ok (.ishl, 1) := by decide +kernel
theorem dX9_turnsEdge_13 : decode cX9_turnsEdge 13 = .ok (.ixor, 1) := by decide +kernel
theorem dX9_turnsEdge_14 : decode cX9_turnsEdge 14 = .ok (.iastore, 1) := by decide +kernel
theorem dX9_turnsEdge_15 : decode cX9_turnsEdge 15 = .ok (.aload_n 0, 1) := by decide +kernel
theorem dX9_turnsEdge_16 : decode cX9_turnsEdge 16 = .ok (.getfield 7, 3) := by decide +kernel
theorem dX9_turnsEdge_19 : decode cX9_turnsEdge 19 = .ok (.bipush 16, 2) := by decide +kernel
theorem dX9_turnsEdge_21 : decode cX9_turnsEdge 21 = .ok (.iload_n 2, 1) := by decide +kernel
theorem dX9_turnsEdge_22 : decode cX9_turnsEdge 22 = .ok (.iadd, 1) := by decide +kernel
theorem dX9_turnsEdge_23 : decode cX9_turnsEdge 23 = .ok (.dup2, 1) := by decide +kernel
theorem dX9_turnsEdge_24 : decode cX9_turnsEdge 24 = .ok (.iaload, 1) := by decide +kernel
theorem dX9_turnsEdge_25 : decode cX9_turnsEdge 25 = .ok (.iconst 1, 1) := by decide +kernel
theorem dX9_turnsEdge_26 : decode cX9_turnsEdge 26 = .ok (.iload_n 1, 1) := by decide +kernel
theorem dX9_turnsEdge_27 : decode cX9_turnsEdge 27 = .ok (.ishl, 1) := by decide +kernel
theorem dX9_turnsEdge_28 : decode cX9_turnsEdge 28 = .ok (.ixor, 1) := by decide +kernel
theorem dX9_turnsEdge_29 : decode cX9_turnsEdge 29 = .ok (.iastore, 1) := by decide +kernel
theorem dX9_turnsEdge_30 : decode cX9_turnsEdge 30 = .ok (.return_, 1) := by decide +kernel
set_option maxRecDepth 20000 in
theorem ggX9_edge_X9_isItem : GoodIn wsX9_edge wsX9_isItem := goodIn_r _ [8, 3, 9, 10, 7, 11, 35, 36, 37, 38, 39, 40, 41, 42, 43, 44, 45, 46, 47, 48, 49, 50, 51] (by decide +kernel) (by decide +kernel)
set_option maxRecDepth 20000 in
theorem gX9_edge_X9_isItem : GoodIn wsX9_edge (wsV RX9 89 RX9 yX9_isItem wsX9_isItem) := goodIn_app (goodIn_of _ (by decide +kernel)) ggX9_edge_X9_isItem
set_option maxRecDepth 20000 in
theorem ggX9_edge_X9_in : GoodIn wsX9_edge wsX9_in := goodIn_r _ [11] (by decide +kernel) (by decide +kernel)
set_option maxRecDepth 20000 in
theorem gX9_edge_X9_in : GoodIn wsX9_edge (va_wsS RX9 57 yX9_in wsX9_in) := goodIn_app (goodIn_of _ (by decide +kernel)) ggX9_edge_X9_in
set_option maxRecDepth 20000 in
theorem ggX9_edge_X9_notes : GoodIn wsX9_edge wsX9_notes := goodIn_r _ [15, 16, 17, 3, 18, 19, 7, 20, 35, 36, 37, 38, 39, 40, 41, 42, 43, 44, 45, 46, 47, 48, 49, 50, 51] (by decide +kernel) (by decide +kernel)
set_option maxRecDepth 20000 in
theorem gX9_edge_X9_notes : GoodIn wsX9_edge (wsV RX9 161 RX9 yX9_notes wsX9_notes) := goodIn_app (goodIn_of _ (by decide +kernel)) ggX9_edge_X9_notes
set_option maxRecDepth 20000 in
theorem ggX9_edge_X9_has : GoodIn wsX9_edge wsX9_has := goodIn_r _ [23] (by decide +kernel) (by decide +kernel)
set_option maxRecDepth 20000 in
theorem gX9_edge_X9_has : GoodIn wsX9_edge (va_wsS RX9 69 yX9_has wsX9_has) := goodIn_app (goodIn_of _ (by decide +kernel)) ggX9_edge_X9_has
set_option maxRecDepth 20000 in
theorem ggX9_edge_X9_turnsEdge : GoodIn wsX9_edge wsX9_turnsEdge := goodIn_r _ [27, 3, 35, 36, 37, 38, 39, 40, 41, 42, 43, 44, 45, 46, 47, 48, 49, 50, 51] (by decide +kernel) (by decide +kernel)
set_option maxRecDepth 20000 in
theorem gX9_edge_X9_turnsEdge : GoodIn wsX9_edge (wsV RX9 164 RX9 yX9_turnsEdge wsX9_turnsEdge) := goodIn_app (goodIn_of _ (by decide +kernel)) ggX9_edge_X9_turnsEdge
set_option maxRecDepth 20000 in
theorem ggX9_edge_X9_edgesNow : GoodIn wsX9_edge wsX9_edgesNow := goodIn_r _ [31, 3, 32, 33, 7, 34, 35, 36, 37, 38, 39, 40, 41, 42, 43, 44, 45, 46, 47, 48, 49, 50, 51] (by decide +kernel) (by decide +kernel)
set_option maxRecDepth 20000 in
theorem gX9_edge_X9_edgesNow : GoodIn wsX9_edge (wsV RX9 146 RX9 yX9_edgesNow wsX9_edgesNow) := goodIn_app (goodIn_of _ (by decide +kernel)) ggX9_edge_X9_edgesNow
theorem dX9_edge_0 : decode cX9_edge 0 = .ok (.aload_n 0, 1) := by decide +kernel
theorem dX9_edge_1 : decode cX9_edge 1 = .ok (.iload_n 1, 1) := by decide +kernel
theorem dX9_edge_2 : decode cX9_edge 2 = .ok (.invokevirtual 89, 3) := by decide +kernel
theorem dX9_edge_5 : decode cX9_edge 5 = .ok (.ifCond .eq 16, 3) := by decide +kernel
theorem dX9_edge_8 : decode cX9_edge 8 = .ok (.aload_n 0, 1) := by decide +kernel
theorem dX9_edge_9 : decode cX9_edge 9 = .ok (.iload_n 2, 1) := by decide +kernel
theorem dX9_edge_10 : decode cX9_edge 10 = .ok (.invokevirtual 89, 3) := by decide +kernel
theorem dX9_edge_13 : decode cX9_edge 13 = .ok (.ifCond .eq 8, 3) := by decide +kernel
theorem dX9_edge_16 : decode cX9_edge 16 = .ok (.iload_n 1, 1) := by decide +kernel
theorem dX9_edge_17 : decode cX9_edge 17 = .ok (.iload_n 2, 1) := by decide +kernel
theorem dX9_edge_18 : decode cX9_edge 18 = .ok (.if_icmp .ne 6, 3) := by decide +kernel
theorem dX9_edge_21 : decode cX9_edge 21 = .ok (.ldc 93, 2) := by decide +kernel
theorem dX9_edge_23 : decode cX9_edge 23 = .ok (.ireturn, 1) := by decide +kernel
theorem dX9_edge_24 : decode cX9_edge 24 = .ok (.iload_n 3, 1) := by decide +kernel
theorem dX9_edge_25 : decode cX9_edge 25 = .ok (.iconst 0, 1) := by decide +kernel
theorem dX9_edge_26 : decode cX9_edge 26 = .ok (.iconst 1, 1) := by decide +kernel
theorem dX9_edge_27 : decode cX9_edge 27 = .ok (.invokestatic 57, 3) := by decide +kernel
theorem dX9_edge_30 : decode cX9_edge 30 = .ok (.ifCond .ne 6, 3) := by decide +kernel
theorem dX9_edge_33 : decode cX9_edge 33 = .ok (.ldc 94, 2) := by decide +kernel
theorem dX9_edge_35 : decode cX9_edge 35 = .ok (.ireturn, 1) := by decide +kernel
theorem dX9_edge_36 : decode cX9_edge 36 = .ok (.aload_n 0, 1) := by decide +kernel
theorem dX9_edge_37 : decode cX9_edge 37 = .ok (.invokevirtual 161, 3) := by decide +kernel
theorem dX9_edge_40 : decode cX9_edge 40 = .ok (.aload_n 0, 1) := by decide +kernel
theorem dX9_edge_41 : decode cX9_edge 41 = .ok (.getfield 7, 3) := by decide +kernel
theorem dX9_edge_44 : decode cX9_edge 44 = .ok (.bipush 16, 2) := by decide +kernel
theorem dX9_edge_46 : decode cX9_edge 46 = .ok (.iload_n 1, 1) := by decide +kernel
theorem dX9_edge_47 : decode cX9_edge 47 = .ok (.iadd, 1) := by decide +kernel
theorem dX9_edge_48 : decode cX9_edge 48 = .ok (.iaload, 1) := by decide +kernel
theorem dX9_edge_49 : decode cX9_edge 49 = .ok (.iload_n 2, 1) := by decide +kernel
theorem dX9_edge_50 : decode cX9_edge 50 = .ok (.invokestatic 69, 3) := by decide +kernel
theorem dX9_edge_53 : decode cX9_edge 53 = .ok (.iload_n 3, 1) := by decide +kernel
theorem dX9_edge_54 : decode cX9_edge 54 = .ok (.iconst 1, 1) := by decide +kernel
theorem dX9_edge_55 : decode cX9_edge 55 = .ok (.if_icmp .ne 7, 3) := by decide +kernel
theorem dX9_edge_58 : decode cX9_edge 58 = .ok (.iconst 1, 1) := by decide +kernel
theorem dX9_edge_59 : decode cX9_edge 59 = .ok (.goto 4, 3) := by decide +kernel
theorem dX9_edge_62 : decode cX9_edge 62 = .ok (.iconst 0, 1) := by decide +kernel
theorem dX9_edge_63 : decode cX9_edge 63 = .ok (.if_icmp .eq 9, 3) := by decide +kernel
theorem dX9_edge_66 : decode cX9_edge 66 = .ok (.aload_n 0, 1) := by decide +kernel
theorem dX9_edge_67 : decode cX9_edge 67 = .ok (.iload_n 1, 1) := by decide +kernel
theorem dX9_edge_68 : decode cX9_edge 68 = .ok (.iload_n 2, 1) := by decide +kernel
theorem dX9_edge_69 : decode cX9_edge 69 = .ok (.invokevirtual 164, 3) := by decide +kernel
theorem dX9_edge_72 : decode cX9_edge 72 = .ok (.aload_n 0, 1) := by decide +kernel
theorem dX9_edge_73 : decode cX9_edge 73 = .ok (.invokevirtual 146, 3) := by decide +kernel
theorem dX9_edge_76 : decode cX9_edge 76 = .ok (.ireturn, 1) := by decide +kernel
set_option maxRecDepth 20000 in
theorem ggX9_columns_X9_isItem : GoodIn wsX9_columns wsX9_isItem := goodIn_r _ [8, 3, 9, 10, 7, 11, 21, 22, 23, 24, 25, 26, 27, 28, 29, 30, 31, 32, 33, 34, 35, 36, 37] (by decide +kernel) (by decide +kernel)
set_option maxRecDepth 20000 in
theorem gX9_columns_X9_isItem : GoodIn wsX9_columns (wsV RX9 89 RX9 yX9_isItem wsX9_isItem) := goodIn_app (goodIn_of _ (by decide +kernel)) ggX9_columns_X9_isItem
set_option maxRecDepth 20000 in
theorem ggX9_columns_X9_in : GoodIn wsX9_columns wsX9_in := goodIn_r _ [11] (by decide +kernel) (by decide +kernel)
set_option maxRecDepth 20000 in
theorem gX9_columns_X9_in : GoodIn wsX9_columns (va_wsS RX9 57 yX9_in wsX9_in) := goodIn_app (goodIn_of _ (by decide +kernel)) ggX9_columns_X9_in
set_option maxRecDepth 20000 in
theorem ggX9_columns_X9_notes : GoodIn wsX9_columns wsX9_notes := goodIn_r _ [15, 16, 17, 3, 18, 19, 7, 20, 21, 22, 23, 24, 25, 26, 27, 28, 29, 30, 31, 32, 33, 34, 35, 36, 37] (by decide +kernel) (by decide +kernel)
set_option maxRecDepth 20000 in
theorem gX9_columns_X9_notes : GoodIn wsX9_columns (wsV RX9 161 RX9 yX9_notes wsX9_notes) := goodIn_app (goodIn_of _ (by decide +kernel)) ggX9_columns_X9_notes
theorem dX9_columns_0 : decode cX9_columns 0 = .ok (.aload_n 0, 1) := by decide +kernel
theorem dX9_columns_1 : decode cX9_columns 1 = .ok (.iload_n 1, 1) := by decide +kernel
theorem dX9_columns_2 : decode cX9_columns 2 = .ok (.invokevirtual 89, 3) := by decide +kernel
theorem dX9_columns_5 : decode cX9_columns 5 = .ok (.ifCond .ne 6, 3) := by decide +kernel
theorem dX9_columns_8 : decode cX9_columns 8 = .ok (.ldc 93, 2) := by decide +kernel
theorem dX9_columns_10 : decode cX9_columns 10 = .ok (.ireturn, 1) := by decide +kernel
theorem dX9_columns_11 : decode cX9_columns 11 = .ok (.iload_n 2, 1) := by decide +kernel
theorem dX9_columns_12 : decode cX9_columns 12 = .ok (.iconst 0, 1) := by decide +kernel
theorem dX9_columns_13 : decode cX9_columns 13 = .ok (.sipush 255, 3) := by decide +kernel
theorem dX9_columns_16 : decode cX9_columns 16 = .ok (.invokestatic 57, 3) := by decide +kernel
theorem dX9_columns_19 : decode cX9_columns 19 = .ok (.ifCond .ne 6, 3) := by decide +kernel
theorem dX9_columns_22 : decode cX9_columns 22 = .ok (.ldc 94, 2) := by decide +kernel
theorem dX9_columns_24 : decode cX9_columns 24 = .ok (.ireturn, 1) := by decide +kernel
theorem dX9_columns_25 : decode cX9_columns 25 = .ok (.aload_n 0, 1) := by decide +kernel
theorem dX9_columns_26 : decode cX9_columns 26 = .ok (.invokevirtual 161, 3) := by decide +kernel
theorem dX9_columns_29 : decode cX9_columns 29 = .ok (.aload_n 0, 1) := by decide +kernel
theorem dX9_columns_30 : decode cX9_columns 30 = .ok (.getfield 7, 3) := by decide +kernel
theorem dX9_columns_33 : decode cX9_columns 33 = .ok (.iconst 4, 1) := by decide +kernel
theorem dX9_columns_34 : decode cX9_columns 34 = .ok (.iload_n 1, 1) := by decide +kernel
theorem dX9_columns_35 : decode cX9_columns 35 = .ok (.iadd, 1) := by decide +kernel
theorem dX9_columns_36 : decode cX9_columns 36 = .ok (.iaload, 1) := by decide +kernel
theorem dX9_columns_37 : decode cX9_columns 37 = .ok (.istore_n 3, 1) := by decide +kernel
theorem dX9_columns_38 : decode cX9_columns 38 = .ok (.aload_n 0, 1) := by decide +kernel
theorem dX9_columns_39 : decode cX9_columns 39 = .ok (.getfield 7, 3) := by decide +kernel
theorem dX9_columns_42 : decode cX9_columns 42 = .ok (.iconst 4, 1) := by decide +kernel
theorem dX9_columns_43 : decode cX9_columns 43 = .ok (.iload_n 1, 1) := by decide +kernel
theorem dX9_columns_44 : decode cX9_columns 44 = .ok (.iadd, 1) := by decide +kernel
theorem dX9_columns_45 : decode cX9_columns 45 = .ok (.iload_n 2, 1) := by decide +kernel
theorem dX9_columns_46 : decode cX9_columns 46 = .ok (.iastore, 1) := by decide +kernel
theorem dX9_columns_47 : decode cX9_columns 47 = .ok (.iload_n 3, 1) := by decide +kernel
theorem dX9_columns_48 : decode cX9_columns 48 = .ok (.ireturn, 1) := by decide +kernel
set_option maxRecDepth 20000 in
theorem ggX9_letters_X9_in : GoodIn wsX9_letters wsX9_in := goodIn_r _ [6] (by decide +kernel) (by decide +kernel)
set_option maxRecDepth 20000 in
theorem gX9_letters_X9_in : GoodIn wsX9_letters (va_wsS RX9 57 yX9_in wsX9_in) := goodIn_app (goodIn_of _ (by decide +kernel)) ggX9_letters_X9_in
set_option maxRecDepth 20000 in
theorem ggX9_letters_X9_notes : GoodIn wsX9_letters wsX9_notes := goodIn_r _ [10, 11, 12, 2, 13, 14, 5, 15, 16, 17, 18, 19, 20, 21, 22, 23, 24, 25, 26, 27, 28, 29, 30, 31, 32] (by decide +kernel) (by decide +kernel)
set_option maxRecDepth 20000 in
theorem gX9_letters_X9_notes : GoodIn wsX9_letters (wsV RX9 161 RX9 yX9_notes wsX9_notes) := goodIn_app (goodIn_of _ (by decide +kernel)) ggX9_letters_X9_notes
theorem dX9_letters_0 : decode cX9_letters 0 = .ok (.iload_n 1, 1) := by decide +kernel
theorem dX9_letters_1 : decode cX9_letters 1 = .ok (.iconst 1, 1) := by decide +kernel
theorem dX9_letters_2 : decode cX9_letters 2 = .ok (.iconst 3, 1) := by decide +kernel
theorem dX9_letters_3 : decode cX9_letters 3 = .ok (.invokestatic 57, 3) := by decide +kernel
theorem dX9_letters_6 : decode cX9_letters 6 = .ok (.ifCond .ne 6, 3) := by decide +kernel
theorem dX9_letters_9 : decode cX9_letters 9 = .ok (.ldc 94, 2) := by decide +kernel
theorem dX9_letters_11 : decode cX9_letters 11 = .ok (.ireturn, 1) := by decide +kernel
theorem dX9_letters_12 : decode cX9_letters 12 = .ok (.aload_n 0, 1) := by decide +kernel
theorem dX9_letters_13 : decode cX9_letters 13 = .ok (.invokevirtual 161, 3) := by decide +kernel
theorem dX9_letters_16 : decode cX9_letters 16 = .ok (.aload_n 0, 1) := by decide +kernel
theorem dX9_letters_17 : decode cX9_letters 17 = .ok (.getfield 7, 3) := by decide +kernel
theorem dX9_letters_20 : decode cX9_letters 20 = .ok (.iconst 1, 1) := by decide +kernel
theorem dX9_letters_21 : decode cX9_letters 21 = .ok (.iaload, 1) := by decide +kernel
theorem dX9_letters_22 : decode cX9_letters 22 = .ok (.istore_n 2, 1) := by decide +kernel
theorem dX9_letters_23 : decode cX9_letters 23 = .ok (.iconst 0, 1) := by decide +kernel
theorem dX9_letters_24 : decode cX9_letters 24 = .ok (.istore_n 3, 1) := by decide +kernel
theorem dX9_letters_25 : decode cX9_letters 25 = .ok (.iload_n 3, 1) := by decide +kernel
theorem dX9_letters_26 : decode cX9_letters 26 = .ok (.bipush 12, 2) := by decide +kernel
theorem dX9_letters_28 : decode cX9_letters 28 = .ok (.if_icmp .ge 39, 3) := by decide +kernel
theorem dX9_letters_31 : decode cX9_letters 31 = .ok (.iload_n 2, 1) := by decide +kernel
theorem dX9_letters_32 : decode cX9_letters 32 = .ok (.istore 4, 2) := by decide +kernel
theorem dX9_letters_34 : decode cX9_letters 34 = .ok (.iload 4, 2) := by decide +kernel
theorem dX9_letters_36 : decode cX9_letters 36 = .ok (.iload_n 1, 1) := by decide +kernel
theorem dX9_letters_37 : decode cX9_letters 37 = .ok (.if_icmp .ge 24, 3) := by decide +kernel
theorem dX9_letters_40 : decode cX9_letters 40 = .ok (.aload_n 0, 1) := by decide +kernel
theorem dX9_letters_41 : decode cX9_letters 41 = .ok (.getfield 7, 3) := by decide +kernel
theorem dX9_letters_44 : decode cX9_letters 44 = .ok (.bipush 28, 2) := by decide +kernel
theorem dX9_letters_46 : decode cX9_letters 46 = .ok (.iconst 3, 1) := by decide +kernel
theorem dX9_letters_47 : decode cX9_letters 47 = .ok (.iload_n 3, 1) := by decide +kernel
theorem dX9_letters_48 : decode cX9_letters 48 = .ok (.imul, 1) := by decide +kernel
theorem dX9_letters_49 : decode cX9_letters 49 = .ok (.iadd, 1) := by decide +kernel
theorem dX9_letters_50 : decode cX9_letters 50 = .ok (.iload 4, 2) := by decide +kernel
theorem dX9_letters_52 : decode cX9_letters 52 = .ok (.iadd, 1) := by decide +kernel
theorem dX9_letters_53 : decode cX9_letters 53 = .ok (.iload_n 3, 1) := by decide +kernel
theorem dX9_letters_54 : decode cX9_letters 54 = .ok (.iastore, 1) := by decide +kernel
theorem dX9_letters_55 : decode cX9_letters 55 = .ok (.iinc 4 1, 3) := by decide +kernel
theorem dX9_letters_58 : decode cX9_letters 58 = .ok (.goto (-24), 3) := by decide +kernel
theorem dX9_letters_61 : decode cX9_letters 61 = .ok (.iinc 3 1, 3) := by decide +kernel
theorem dX9_letters_64 : decode cX9_letters 64 = .ok (.goto (-39), 3) := by decide +kernel
theorem dX9_letters_67 : decode cX9_letters 67 = .ok (.aload_n 0, 1) := by decide +kernel
theorem dX9_letters_68 : decode cX9_letters 68 = .ok (.getfield 7, 3) := by decide +kernel
theorem dX9_letters_71 : decode cX9_letters 71 = .ok (.iconst 1, 1) := by decide +kernel
theorem dX9_letters_72 : decode cX9_letters 72 = .ok (.iload_n 1, 1) := by decide +kernel
theorem dX9_letters_73 : decode cX9_letters 73 = .ok (.iastore, 1) := by decide +kernel
theorem dX9_letters_74 : decode cX9_letters 74 = .ok (.iload_n 2, 1) := by decide +kernel
theorem dX9_letters_75 : decode cX9_letters 75 = .ok (.ireturn, 1) := by decide +kernel
set_option maxRecDepth 20000 in
theorem ggX9_goes_X9_isItem : GoodIn wsX9_goes wsX9_isItem := goodIn_r _ [7, 1, 8, 9, 6, 10, 20, 21, 22, 23, 24, 25, 26, 27, 28, 29, 30, 31, 32, 33, 34, 35, 36] (by decide +kernel) (by decide +kernel)
set_option maxRecDepth 20000 in
theorem gX9_goes_X9_isItem : GoodIn wsX9_goes (wsV RX9 89 RX9 yX9_isItem wsX9_isItem) := goodIn_app (goodIn_of _ (by decide +kernel)) ggX9_goes_X9_isItem
set_option maxRecDepth 20000 in
theorem ggX9_goes_X9_in : GoodIn wsX9_goes wsX9_in := goodIn_r _ [10] (by decide +kernel) (by decide +kernel)
set_option maxRecDepth 20000 in
theorem gX9_goes_X9_in : GoodIn wsX9_goes (va_wsS RX9 57 yX9_in wsX9_in) := goodIn_app (goodIn_of _ (by decide +kernel)) ggX9_goes_X9_in
set_option maxRecDepth 20000 in
theorem ggX9_goes_X9_notes : GoodIn wsX9_goes wsX9_notes := goodIn_r _ [14, 15, 16, 1, 17, 18, 6, 19, 20, 21, 22, 23, 24, 25, 26, 27, 28, 29, 30, 31, 32, 33, 34, 35, 36] (by decide +kernel) (by decide +kernel)
set_option maxRecDepth 20000 in
theorem gX9_goes_X9_notes : GoodIn wsX9_goes (wsV RX9 161 RX9 yX9_notes wsX9_notes) := goodIn_app (goodIn_of _ (by decide +kernel)) ggX9_goes_X9_notes
theorem dX9_goes_0 : decode cX9_goes 0 = .ok (.aload_n 0, 1) := by decide +kernel
theorem dX9_goes_1 : decode cX9_goes 1 = .ok (.iload_n 1, 1) := by decide +kernel
theorem dX9_goes_2 : decode cX9_goes 2 = .ok (.invokevirtual 89, 3) := by decide +kernel
theorem dX9_goes_5 : decode cX9_goes 5 = .ok (.ifCond .eq 27, 3) := by decide +kernel
theorem dX9_goes_8 : decode cX9_goes 8 = .ok (.iload_n 2, 1) := by decide +kernel
theorem dX9_goes_9 : decode cX9_goes 9 = .ok (.iconst 0, 1) := by decide +kernel
theorem dX9_goes_10 : decode cX9_goes 10 = .ok (.aload_n 0, 1) := by decide +kernel
theorem dX9_goes_11 : decode cX9_goes 11 = .ok (.getfield 7, 3) := by decide +kernel
theorem dX9_goes_14 : decode cX9_goes 14 = .ok (.iconst 1, 1) := by decide +kernel
theorem dX9_goes_15 : decode cX9_goes 15 = .ok (.iaload, 1) := by decide +kernel
theorem dX9_goes_16 : decode cX9_goes 16 = .ok (.iconst 1, 1) := by decide +kernel
theorem dX9_goes_17 : decode cX9_goes 17 = .ok (.isub, 1) := by decide +kernel
theorem dX9_goes_18 : decode cX9_goes 18 = .ok (.invokestatic 57, 3) := by decide +kernel
theorem dX9_goes_21 : decode cX9_goes 21 = .ok (.ifCond .eq 11, 3) := by decide +kernel
theorem dX9_goes_24 : decode cX9_goes 24 = .ok (.aload_n 0, 1) := by decide +kernel
theorem dX9_goes_25 : decode cX9_goes 25 = .ok (.iload_n 3, 1) := by decide +kernel
theorem dX9_goes_26 : decode cX9_goes 26 = .ok (.invokevirtual 89, 3) := by decide +kernel
theorem dX9_goes_29 : decode cX9_goes 29 = .ok (.ifCond .ne 6, 3) := by decide +kernel
theorem dX9_goes_32 : decode cX9_goes 32 = .ok (.ldc 93, 2) := by decide +kernel
theorem dX9_goes_34 : decode cX9_goes 34 = .ok (.ireturn, 1) := by decide +kernel
theorem dX9_goes_35 : decode cX9_goes 35 = .ok (.aload_n 0, 1) := by decide +kernel
theorem dX9_goes_36 : decode cX9_goes 36 = .ok (.invokevirtual 161, 3) := by decide +kernel
theorem dX9_goes_39 : decode cX9_goes 39 = .ok (.aload_n 0, 1) := by decide +kernel
theorem dX9_goes_40 : decode cX9_goes 40 = .ok (.getfield 7, 3) := by decide +kernel
theorem dX9_goes_43 : decode cX9_goes 43 = .ok (.bipush 28, 2) := by decide +kernel
theorem dX9_goes_45 : decode cX9_goes 45 = .ok (.iconst 3, 1) := by decide +kernel
theorem dX9_goes_46 : decode cX9_goes 46 = .ok (.iload_n 1, 1) := by decide +kernel
theorem dX9_goes_47 : decode cX9_goes 47 = .ok (.imul, 1) := by decide +kernel
theorem dX9_goes_48 : decode cX9_goes 48 = .ok (.iadd, 1) := by decide +kernel
theorem dX9_goes_49 : decode cX9_goes 49 = .ok (.iload_n 2, 1) := by decide +kernel
theorem dX9_goes_50 : decode cX9_goes 50 = .ok (.iadd, 1) := by decide +kernel
theorem dX9_goes_51 : decode cX9_goes 51 = .ok (.iaload, 1) := by decide +kernel
theorem dX9_goes_52 : decode cX9_goes 52 = .ok (.istore 4, 2) := by decide +kernel
theorem dX9_goes_54 : decode cX9_goes 54 = .ok (.aload_n 0, 1) := by decide +kernel
theorem dX9_goes_55 : decode cX9_goes 55 = .ok (.getfield 7, 3) := by decide +kernel
theorem dX9_goes_58 : decode cX9_goes 58 = .ok (.bipush 28, 2) := by decide +kernel
theorem dX9_goes_60 : decode cX9_goes 60 = .ok (.iconst 3, 1) := by decide +kernel
theorem dX9_goes_61 : decode cX9_goes 61 = .ok (.iload_n 1, 1) := by decide +kernel
theorem dX9_goes_62 : decode cX9_goes 62 = .ok (.imul, 1) := by decide +kernel
theorem dX9_goes_63 : decode cX9_goes 63 = .ok (.iadd, 1) := by decide +kernel
theorem dX9_goes_64 : decode cX9_goes 64 = .ok (.iload_n 2, 1) := by decide +kernel
theorem dX9_goes_65 : decode cX9_goes 65 = .ok (.iadd, 1) := by decide +kernel
theorem dX9_goes_66 : decode cX9_goes 66 = .ok (.iload_n 3, 1) := by decide +kernel
theorem dX9_goes_67 : decode cX9_goes 67 = .ok (.iastore, 1) := by decide +kernel
theorem dX9_goes_68 : decode cX9_goes 68 = .ok (.iload 4, 2) := by decide +kernel
theorem dX9_goes_70 : decode cX9_goes 70 = .ok (.ireturn, 1) := by decide +kernel
set_option maxRecDepth 20000 in
theorem ggX9_finals_X9_isSet : GoodIn wsX9_finals wsX9_isSet := goodIn_r _ [7, 2, 8, 9, 6, 10, 20, 21, 22, 23, 24, 25, 26, 27, 28, 29, 30, 31, 32, 33, 34, 35, 36] (by decide +kernel) (by decide +kernel)
set_option maxRecDepth 20000 in
theorem gX9_finals_X9_isSet : GoodIn wsX9_finals (wsV RX9 168 RX9 yX9_isSet wsX9_isSet) := goodIn_app (goodIn_of _ (by decide +kernel)) ggX9_finals_X9_isSet
set_option maxRecDepth 20000 in
theorem ggX9_finals_X9_notes : GoodIn wsX9_finals wsX9_notes := goodIn_r _ [14, 15, 16, 2, 17, 18, 6, 19, 20, 21, 22, 23, 24, 25, 26, 27, 28, 29, 30, 31, 32, 33, 34, 35, 36] (by decide +kernel) (by decide +kernel)
set_option maxRecDepth 20000 in
theorem gX9_finals_X9_notes : GoodIn wsX9_finals (wsV RX9 161 RX9 yX9_notes wsX9_notes) := goodIn_app (goodIn_of _ (by decide +kernel)) ggX9_finals_X9_notes
theorem dX9_finals_0 : decode cX9_finals 0 = .ok (.aload_n 0, 1) := by decide +kernel
theorem dX9_finals_1 : decode cX9_finals 1 = .ok (.iload_n 1, 1) := by decide +kernel
theorem dX9_finals_2 : decode cX9_finals 2 = .ok (.invokevirtual 168, 3) := by decide +kernel
theorem dX9_finals_5 : decode cX9_finals 5 = .ok (.ifCond .ne 6, 3) := by decide +kernel
theorem dX9_finals_8 : decode cX9_finals 8 = .ok (.ldc 93, 2) := by decide +kernel
theorem dX9_finals_10 : decode cX9_finals 10 = .ok (.ireturn, 1) := by decide +kernel
theorem dX9_finals_11 : decode cX9_finals 11 = .ok (.aload_n 0, 1) := by decide +kernel
theorem dX9_finals_12 : decode cX9_finals 12 = .ok (.invokevirtual 161, 3) := by decide +kernel
theorem dX9_finals_15 : decode cX9_finals 15 = .ok (.aload_n 0, 1) := by decide +kernel
theorem dX9_finals_16 : decode cX9_finals 16 = .ok (.getfield 7, 3) := by decide +kernel
theorem dX9_finals_19 : decode cX9_finals 19 = .ok (.iconst 2, 1) := by decide +kernel
theorem dX9_finals_20 : decode cX9_finals 20 = .ok (.iaload, 1) := by decide +kernel
theorem dX9_finals_21 : decode cX9_finals 21 = .ok (.istore_n 2, 1) := by decide +kernel
theorem dX9_finals_22 : decode cX9_finals 22 = .ok (.aload_n 0, 1) := by decide +kernel
theorem dX9_finals_23 : decode cX9_finals 23 = .ok (.getfield 7, 3) := by decide +kernel
theorem dX9_finals_26 : decode cX9_finals 26 = .ok (.iconst 2, 1) := by decide +kernel
theorem dX9_finals_27 : decode cX9_finals 27 = .ok (.iload_n 1, 1) := by decide +kernel
theorem dX9_finals_28 : decode cX9_finals 28 = .ok (.iastore, 1) := by decide +kernel
theorem dX9_finals_29 : decode cX9_finals 29 = .ok (.iload_n 2, 1) := by decide +kernel
theorem dX9_finals_30 : decode cX9_finals 30 = .ok (.ireturn, 1) := by decide +kernel
set_option maxRecDepth 20000 in
theorem ggX9_begin_X9_notes : GoodIn wsX9_begin wsX9_notes := goodIn_r _ [6, 7, 8, 1, 9, 10, 5, 11, 16, 17, 18, 19, 20, 21, 22, 23, 24, 25, 26, 27, 28, 29, 30, 31, 32] (by decide +kernel) (by decide +kernel)
set_option maxRecDepth 20000 in
theorem gX9_begin_X9_notes : GoodIn wsX9_begin (wsV RX9 161 RX9 yX9_notes wsX9_notes) := goodIn_app (goodIn_of _ (by decide +kernel)) ggX9_begin_X9_notes
set_option maxRecDepth 20000 in
theorem ggX9_begin_X9_classes : GoodIn wsX9_begin wsX9_classes := goodIn_r _ [15, 1, 16, 17, 18, 19, 20, 21, 22, 23, 24, 25, 26, 27, 28, 29, 30, 31, 32] (by decide +kernel) (by decide +kernel)
set_option maxRecDepth 20000 in
theorem gX9_begin_X9_classes : GoodIn wsX9_begin (wsV RX9 73 RX9 yX9_classes wsX9_classes) := goodIn_app (goodIn_of _ (by decide +kernel)) ggX9_begin_X9_classes
theorem dX9_begin_0 : decode cX9_begin 0 = .ok (.aload_n 0, 1) := by decide +kernel
theorem dX9_begin_1 : decode cX9_begin 1 = .ok (.invokevirtual 161, 3) := by decide +kernel
theorem dX9_begin_4 : decode cX9_begin 4 = .ok (.aload_n 0, 1) := by decide +kernel
theorem dX9_begin_5 : decode cX9_begin 5 = .ok (.aload_n 0, 1) := by decide +kernel
theorem dX9_begin_6 : decode cX9_begin 6 = .ok (.getfield 7, 3) := by decide +kernel
theorem dX9_begin_9 : decode cX9_begin 9 = .ok (.bipush 64, 2) := by decide +kernel
theorem dX9_begin_11 : decode cX9_begin 11 = .ok (.invokevirtual 73, 3) := by decide +kernel
theorem dX9_begin_14 : decode cX9_begin 14 = .ok (.istore_n 1, 1) := by decide +kernel
theorem dX9_begin_15 : decode cX9_begin 15 = .ok (.iconst 0, 1) := by decide +kernel
theorem dX9_begin_16 : decode cX9_begin 16 = .ok (.istore_n 2, 1) := by decide +kernel
theorem dX9_begin_17 : decode cX9_begin 17 = .ok (.iload_n 2, 1) := by decide +kernel
theorem dX9_begin_18 : decode cX9_begin 18 = .ok (.bipush 12, 2) := by decide +kernel
theorem dX9_begin_20 : decode cX9_begin 20 = .ok (.if_icmp .ge 19, 3) := by decide +kernel
theorem dX9_begin_23 : decode cX9_begin 23 = .ok (.aload_n 0, 1) := by decide +kernel
theorem dX9_begin_24 : decode cX9_begin 24 = .ok (.getfield 7, 3) := by decide +kernel
theorem dX9_begin_27 : decode cX9_begin 27 = .ok (.bipush 64, 2) := by decide +kernel
theorem dX9_begin_29 : decode cX9_begin 29 = .ok (.iload_n 2, 1) := by decide +kernel
theorem dX9_begin_30 : decode cX9_begin 30 = .ok (.iadd, 1) := by decide +kernel
theorem dX9_begin_31 : decode cX9_begin 31 = .ok (.iconst 0, 1) := by decide +kernel
theorem dX9_begin_32 : decode cX9_begin 32 = .ok (.iastore, 1) := by decide +kernel
theorem dX9_begin_33 : decode cX9_begin 33 = .ok (.iinc 2 1, 3) := by decide +kernel
theorem dX9_begin_36 : decode cX9_begin 36 = .ok (.goto (-19), 3) := by decide +kernel
theorem dX9_begin_39 : decode cX9_begin 39 = .ok (.aload_n 0, 1) := by decide +kernel
theorem dX9_begin_40 : decode cX9_begin 40 = .ok (.getfield 7, 3) := by decide +kernel
theorem dX9_begin_43 : decode cX9_begin 43 = .ok (.iconst 3, 1) := by decide +kernel
theorem dX9_begin_44 : decode cX9_begin 44 = .ok (.iconst 0, 1) := by decide +kernel
theorem dX9_begin_45 : decode cX9_begin 45 = .ok (.iastore, 1) := by decide +kernel
theorem dX9_begin_46 : decode cX9_begin 46 = .ok (.iload_n 1, 1) := by decide +kernel
theorem dX9_begin_47 : decode cX9_begin 47 = .ok (.ireturn, 1) := by decide +kernel
set_option maxRecDepth 20000 in
theorem ggX9_splitsNow_X9_notes : GoodIn wsX9_splitsNow wsX9_notes := goodIn_r _ [6, 7, 8, 1, 9, 10, 5, 11, 35, 36, 37, 38, 39, 40, 41, 42, 43, 44, 45, 46, 47, 48, 49, 50, 51] (by decide +kernel) (by decide +kernel)
set_option maxRecDepth 20000 in
theorem gX9_splitsNow_X9_notes : GoodIn wsX9_splitsNow (wsV RX9 161 RX9 yX9_notes wsX9_notes) := goodIn_app (goodIn_of _ (by decide +kernel)) ggX9_splitsNow_X9_notes
set_option maxRecDepth 20000 in
theorem ggX9_splitsNow_X9_sizeOf : GoodIn wsX9_splitsNow wsX9_sizeOf := goodIn_r _ [14] (by decide +kernel) (by decide +kernel)
set_option maxRecDepth 20000 in
theorem gX9_splitsNow_X9_sizeOf : GoodIn wsX9_splitsNow (va_wsS RX9 85 yX9_sizeOf wsX9_sizeOf) := goodIn_app (goodIn_of _ (by decide +kernel)) ggX9_splitsNow_X9_sizeOf
set_option maxRecDepth 20000 in
theorem ggX9_splitsNow_X9_splits : GoodIn wsX9_splitsNow wsX9_splits := goodIn_r _ [18, 19, 20, 21, 22, 5, 23, 1, 9, 10, 11, 24, 25, 26, 27, 28, 29, 30, 31, 32, 33, 34, 35, 36, 37, 38, 39, 40, 41, 42, 43, 44, 45, 46, 47, 48, 49, 50, 51] (by decide +kernel) (by decide +kernel)
set_option maxRecDepth 20000 in
theorem gX9_splitsNow_X9_splits : GoodIn wsX9_splitsNow (wsV RX9 124 RX9 yX9_splits wsX9_splits) := goodIn_app (goodIn_of _ (by decide +kernel)) ggX9_splitsNow_X9_splits
set_option maxRecDepth 20000 in
theorem ggX9_splitsNow_X9_classes : GoodIn wsX9_splitsNow wsX9_classes := goodIn_r _ [23, 1, 35, 36, 37, 38, 39, 40, 41, 42, 43, 44, 45, 46, 47, 48, 49, 50, 51] (by decide +kernel) (by decide +kernel)
set_option maxRecDepth 20000 in
theorem gX9_splitsNow_X9_classes : GoodIn wsX9_splitsNow (wsV RX9 73 RX9 yX9_classes wsX9_classes) := goodIn_app (goodIn_of _ (by decide +kernel)) ggX9_splitsNow_X9_classes
theorem dX9_splitsNow_0 : decode cX9_splitsNow 0 = .ok (.aload_n 0, 1) := by decide +kernel
theorem dX9_splitsNow_1 : decode cX9_splitsNow 1 = .ok (.invokevirtual 161, 3) := by decide +kernel
theorem dX9_splitsNow_4 : decode cX9_splitsNow 4 = .ok (.aload_n 0, 1) := by decide +kernel
theorem dX9_splitsNow_5 : decode cX9_splitsNow 5 = .ok (.getfield 7, 3) := by decide +kernel
theorem dX9_splitsNow_8 : decode cX9_splitsNow 8 = .ok (.iconst 3, 1) := by decide +kernel
theorem dX9_splitsNow_9 : decode cX9_splitsNow 9 = .ok (.dup2, 1) := by decide +kernel
theorem dX9_splitsNow_10 : decode cX9_splitsNow 10 = .ok (.iaload, 1) := by decide +kernel
theorem dX9_splitsNow_11 : decode cX9_splitsNow 11 = .ok (.iload_n 1, 1) := by decide +kernel
theorem dX9_splitsNow_12 : decode cX9_splitsNow 12 = .ok (.invokestatic 85, 3) := by decide +kernel
theorem dX9_splitsNow_15 : decode cX9_splitsNow 15 = .ok (.iadd, 1) := by decide +kernel
theorem dX9_splitsNow_16 : decode cX9_splitsNow 16 = .ok (.iastore, 1) := by decide +kernel
theorem dX9_splitsNow_17 : decode cX9_splitsNow 17 = .ok (.aload_n 0, 1) := by decide +kernel
theorem dX9_splitsNow_18 : decode cX9_splitsNow 18 = .ok (.aload_n 0, 1) := by decide +kernel
theorem dX9_splitsNow_19 : decode cX9_splitsNow 19 = .ok (.getfield 7, 3) := by decide +kernel
theorem dX9_splitsNow_22 : decode cX9_splitsNow 22 = .ok (.bipush 64, 2) := by decide +kernel
theorem dX9_splitsNow_24 : decode cX9_splitsNow 24 = .ok (.iload_n 1, 1) := by decide +kernel
theorem dX9_splitsNow_25 : decode cX9_splitsNow 25 = .ok (.invokevirtual 124, 3) := by decide +kernel
theorem dX9_splitsNow_28 : decode cX9_splitsNow 28 = .ok (.aload_n 0, 1) := by decide +kernel
theorem dX9_splitsNow_29 : decode cX9_splitsNow 29 = .ok (.aload_n 0, 1) := by decide +kernel
theorem dX9_splitsNow_30 : decode cX9_splitsNow 30 = .ok (.getfield 7, 3) := by decide +kernel
theorem dX9_splitsNow_33 : decode cX9_splitsNow 33 = .ok (.bipush 64, 2) := by decide +kernel
theorem dX9_splitsNow_35 : decode cX9_splitsNow 35 = .ok (.invokevirtual 73, 3) := by decide +kernel
theorem dX9_splitsNow_38 : decode cX9_splitsNow 38 = .ok (.ireturn, 1) := by decide +kernel
set_option maxRecDepth 20000 in
theorem ggX9_split_X9_isSet : GoodIn wsX9_split wsX9_isSet := goodIn_r _ [6, 7, 8, 9, 5, 10, 47, 48, 49, 50, 51, 52, 53, 54, 55, 56, 57, 58, 59, 60, 61, 62, 63] (by decide +kernel) (by decide +kernel)
set_option maxRecDepth 20000 in
theorem gX9_split_X9_isSet : GoodIn wsX9_split (wsV RX9 168 RX9 yX9_isSet wsX9_isSet) := goodIn_app (goodIn_of _ (by decide +kernel)) ggX9_split_X9_isSet
set_option maxRecDepth 20000 in
theorem ggX9_split_X9_splitsNow : GoodIn wsX9_split wsX9_splitsNow := goodIn_r _ [14, 7, 15, 16, 17, 5, 18, 19, 20, 21, 22, 23, 24, 25, 26, 27, 28, 29, 30, 31, 32, 33, 34, 35, 36, 37, 38, 39, 40, 41, 42, 43, 44, 45, 46, 47, 48, 49, 50, 51, 52, 53, 54, 55, 56, 57, 58, 59, 60, 61, 62, 63] (by decide +kernel) (by decide +kernel)
set_option maxRecDepth 20000 in
theorem gX9_split_X9_splitsNow : GoodIn wsX9_split (wsV RX9 171 RX9 yX9_splitsNow wsX9_splitsNow) := goodIn_app (goodIn_of _ (by decide +kernel)) ggX9_split_X9_splitsNow
theorem dX9_split_0 : decode cX9_split 0 = .ok (.aload_n 0, 1) := by decide +kernel
theorem dX9_split_1 : decode cX9_split 1 = .ok (.iload_n 1, 1) := by decide +kernel
theorem dX9_split_2 : decode cX9_split 2 = .ok (.invokevirtual 168, 3) := by decide +kernel
theorem dX9_split_5 : decode cX9_split 5 = .ok (.ifCond .eq 11, 3) := by decide +kernel
theorem dX9_split_8 : decode cX9_split 8 = .ok (.aload_n 0, 1) := by decide +kernel
theorem dX9_split_9 : decode cX9_split 9 = .ok (.iload_n 1, 1) := by decide +kernel
theorem dX9_split_10 : decode cX9_split 10 = .ok (.invokevirtual 171, 3) := by decide +kernel
theorem dX9_split_13 : decode cX9_split 13 = .ok (.goto 5, 3) := by decide +kernel
theorem dX9_split_16 : decode cX9_split 16 = .ok (.ldc 93, 2) := by decide +kernel
theorem dX9_split_18 : decode cX9_split 18 = .ok (.ireturn, 1) := by decide +kernel
set_option maxRecDepth 20000 in
theorem ggX9_by_X9_askedBy : GoodIn wsX9_by wsX9_askedBy := goodIn_r _ [5, 6, 7, 8, 9, 10, 11, 4, 12, 13, 14, 15, 16, 17, 18, 19, 68, 69, 70, 71, 72, 73, 74, 75, 76, 77, 78, 79, 80, 81, 82, 83, 84] (by decide +kernel) (by decide +kernel)
set_option maxRecDepth 20000 in
theorem gX9_by_X9_askedBy : GoodIn wsX9_by (wsV RX9 105 RX9 yX9_askedBy wsX9_askedBy) := goodIn_app (goodIn_of _ (by decide +kernel)) ggX9_by_X9_askedBy
set_option maxRecDepth 20000 in
theorem ggX9_by_X9_setOf : GoodIn wsX9_by wsX9_setOf := goodIn_r _ [23, 6, 24, 25, 26, 4, 27, 28, 29, 30, 31, 32, 33, 34, 35, 36, 37, 38, 39, 40, 41, 42, 43, 44, 45, 68, 69, 70, 71, 72, 73, 74, 75, 76, 77, 78, 79, 80, 81, 82, 83, 84] (by decide +kernel) (by decide +kernel)
set_option maxRecDepth 20000 in
theorem gX9_by_X9_setOf : GoodIn wsX9_by (wsV RX9 109 RX9 yX9_setOf wsX9_setOf) := goodIn_app (goodIn_of _ (by decide +kernel)) ggX9_by_X9_setOf
set_option maxRecDepth 20000 in
theorem ggX9_by_X9_splitsNow : GoodIn wsX9_by wsX9_splitsNow := goodIn_r _ [49, 6, 50, 51, 52, 4, 53, 54, 55, 56, 57, 58, 43, 44, 45, 59, 60, 61, 62, 63, 9, 10, 11, 12, 39, 40, 41, 42, 64, 65, 66, 67, 28, 29, 30, 68, 69, 70, 71, 72, 73, 74, 75, 76, 77, 78, 79, 80, 81, 82, 83, 84] (by decide +kernel) (by decide +kernel)
set_option maxRecDepth 20000 in
theorem gX9_by_X9_splitsNow : GoodIn wsX9_by (wsV RX9 171 RX9 yX9_splitsNow wsX9_splitsNow) := goodIn_app (goodIn_of _ (by decide +kernel)) ggX9_by_X9_splitsNow
theorem dX9_by_0 : decode cX9_by 0 = .ok (.aload_n 0, 1) := by decide +kernel
theorem dX9_by_1 : decode cX9_by 1 = .ok (.iload_n 1, 1) := by decide +kernel
theorem dX9_by_2 : decode cX9_by 2 = .ok (.iload_n 2, 1) := by decide +kernel
theorem dX9_by_3 : decode cX9_by 3 = .ok (.iload_n 3, 1) := by decide +kernel
theorem dX9_by_4 : decode cX9_by 4 = .ok (.invokevirtual 105, 3) := by decide +kernel
theorem dX9_by_7 : decode cX9_by 7 = .ok (.istore 4, 2) := by decide +kernel
theorem dX9_by_9 : decode cX9_by 9 = .ok (.iload 4, 2) := by decide +kernel
theorem dX9_by_11 : decode cX9_by 11 = .ok (.ifCond .eq 8, 3) := by decide +kernel
theorem dX9_by_14 : decode cX9_by 14 = .ok (.iload 4, 2) := by decide +kernel
theorem dX9_by_16 : decode cX9_by 16 = .ok (.goto 14, 3) := by decide +kernel
theorem dX9_by_19 : decode cX9_by 19 = .ok (.aload_n 0, 1) := by decide +kernel
theorem dX9_by_20 : decode cX9_by 20 = .ok (.aload_n 0, 1) := by decide +kernel
theorem dX9_by_21 : decode cX9_by 21 = .ok (.iload_n 1, 1) := by decide +kernel
theorem dX9_by_22 : decode cX9_by 22 = .ok (.iload_n 2, 1) := by decide +kernel
theorem dX9_by_23 : decode cX9_by 23 = .ok (.iload_n 3, 1) := by decide +kernel
theorem dX9_by_24 : decode cX9_by 24 = .ok (.invokevirtual 109, 3) := by decide +kernel
theorem dX9_by_27 : decode cX9_by 27 = .ok (.invokevirtual 171, 3) := by decide +kernel
theorem dX9_by_30 : decode cX9_by 30 = .ok (.ireturn, 1) := by decide +kernel
set_option maxRecDepth 20000 in
theorem ggX9_refine_X9_in : GoodIn wsX9_refine wsX9_in := goodIn_r _ [6] (by decide +kernel) (by decide +kernel)
set_option maxRecDepth 20000 in
theorem gX9_refine_X9_in : GoodIn wsX9_refine (va_wsS RX9 57 yX9_in wsX9_in) := goodIn_app (goodIn_of _ (by decide +kernel)) ggX9_refine_X9_in
set_option maxRecDepth 20000 in
theorem ggX9_refine_X9_notes : GoodIn wsX9_refine wsX9_notes := goodIn_r _ [10, 11, 12, 2, 13, 14, 5, 15, 73, 74, 75, 76, 77, 78, 79, 80, 81, 82, 83, 84, 85, 86, 87, 88, 89] (by decide +kernel) (by decide +kernel)
set_option maxRecDepth 20000 in
theorem gX9_refine_X9_notes : GoodIn wsX9_refine (wsV RX9 161 RX9 yX9_notes wsX9_notes) := goodIn_app (goodIn_of _ (by decide +kernel)) ggX9_refine_X9_notes
set_option maxRecDepth 20000 in
theorem ggX9_refine_X9_refines : GoodIn wsX9_refine wsX9_refines := goodIn_r _ [19, 2, 20, 21, 22, 5, 23, 24, 25, 26, 27, 28, 29, 30, 31, 32, 33, 34, 35, 36, 13, 14, 15, 37, 38, 39, 40, 41, 42, 43, 44, 45, 46, 47, 48, 49, 50, 51, 52, 53, 54, 55, 56, 57, 58, 59, 60, 61, 62, 63, 64, 65, 66, 67, 68, 69, 70, 71, 72, 73, 74, 75, 76, 77, 78, 79, 80, 81, 82, 83, 84, 85, 86, 87, 88, 89] (by decide +kernel) (by decide +kernel)
set_option maxRecDepth 20000 in
theorem gX9_refine_X9_refines : GoodIn wsX9_refine (wsV RX9 127 RX9 yX9_refines wsX9_refines) := goodIn_app (goodIn_of _ (by decide +kernel)) ggX9_refine_X9_refines
set_option maxRecDepth 20000 in
theorem ggX9_refine_X9_classes : GoodIn wsX9_refine wsX9_classes := goodIn_r _ [72, 2, 73, 74, 75, 76, 77, 78, 79, 80, 81, 82, 83, 84, 85, 86, 87, 88, 89] (by decide +kernel) (by decide +kernel)
set_option maxRecDepth 20000 in
theorem gX9_refine_X9_classes : GoodIn wsX9_refine (wsV RX9 73 RX9 yX9_classes wsX9_classes) := goodIn_app (goodIn_of _ (by decide +kernel)) ggX9_refine_X9_classes
theorem dX9_refine_0 : decode cX9_refine 0 = .ok (.iload_n 1, 1) := by decide +kernel
theorem dX9_refine_1 : decode cX9_refine 1 = .ok (.iconst 0, 1) := by decide +kernel
theorem dX9_refine_2 : decode cX9_refine 2 = .ok (.iconst 4, 1) := by decide +kernel
theorem dX9_refine_3 : decode cX9_refine 3 = .ok (.invokestatic 57, 3) := by decide +kernel
theorem dX9_refine_6 : decode cX9_refine 6 = .ok (.ifCond .ne 6, 3) := by decide +kernel
theorem dX9_refine_9 : decode cX9_refine 9 = .ok (.ldc 94, 2) := by decide +kernel
theorem dX9_refine_11 : decode cX9_refine 11 = .ok (.ireturn, 1) := by decide +kernel
theorem dX9_refine_12 : decode cX9_refine 12 = .ok (.aload_n 0, 1) := by decide +kernel
theorem dX9_refine_13 : decode cX9_refine 13 = .ok (.invokevirtual 161, 3) := by decide +kernel
theorem dX9_refine_16 : decode cX9_refine 16 = .ok (.aload_n 0, 1) := by decide +kernel
theorem dX9_refine_17 : decode cX9_refine 17 = .ok (.aload_n 0, 1) := by decide +kernel
theorem dX9_refine_18 : decode cX9_refine 18 = .ok (.getfield 7, 3) := by decide +kernel
theorem dX9_refine_21 : decode cX9_refine 21 = .ok (.bipush 64, 2) := by decide +kernel
theorem dX9_refine_23 : decode cX9_refine 23 = .ok (.iload_n 1, 1) := by decide +kernel
theorem dX9_refine_24 : decode cX9_refine 24 = .ok (.invokevirtual 127, 3) := by decide +kernel
theorem dX9_refine_27 : decode cX9_refine 27 = .ok (.aload_n 0, 1) := by decide +kernel
theorem dX9_refine_28 : decode cX9_refine 28 = .ok (.aload_n 0, 1) := by decide +kernel
theorem dX9_refine_29 : decode cX9_refine 29 = .ok (.getfield 7, 3) := by decide +kernel
theorem dX9_refine_32 : decode cX9_refine 32 = .ok (.bipush 64, 2) := by decide +kernel
theorem dX9_refine_34 : decode cX9_refine 34 = .ok (.invokevirtual 73, 3) := by decide +kernel
theorem dX9_refine_37 : decode cX9_refine 37 = .ok (.ireturn, 1) := by decide +kernel
set_option maxRecDepth 20000 in
theorem ggX9_join_X9_classes : GoodIn wsX9_join wsX9_classes := goodIn_r _ [7, 1, 20, 21, 22, 23, 24, 25, 26, 27, 28, 29, 30, 31, 32, 33, 34, 35, 36] (by decide +kernel) (by decide +kernel)
set_option maxRecDepth 20000 in
theorem gX9_join_X9_classes : GoodIn wsX9_join (wsV RX9 73 RX9 yX9_classes wsX9_classes) := goodIn_app (goodIn_of _ (by decide +kernel)) ggX9_join_X9_classes
set_option maxRecDepth 20000 in
theorem ggX9_join_X9_in : GoodIn wsX9_join wsX9_in := goodIn_r _ [10] (by decide +kernel) (by decide +kernel)
set_option maxRecDepth 20000 in
theorem gX9_join_X9_in : GoodIn wsX9_join (va_wsS RX9 57 yX9_in wsX9_in) := goodIn_app (goodIn_of _ (by decide +kernel)) ggX9_join_X9_in
set_option maxRecDepth 20000 in
theorem ggX9_join_X9_notes : GoodIn wsX9_join wsX9_notes := goodIn_r _ [14, 15, 16, 1, 17, 18, 6, 19, 20, 21, 22, 23, 24, 25, 26, 27, 28, 29, 30, 31, 32, 33, 34, 35, 36] (by decide +kernel) (by decide +kernel)
set_option maxRecDepth 20000 in
theorem gX9_join_X9_notes : GoodIn wsX9_join (wsV RX9 161 RX9 yX9_notes wsX9_notes) := goodIn_app (goodIn_of _ (by decide +kernel)) ggX9_join_X9_notes
theorem dX9_join_0 : decode cX9_join 0 = .ok (.iload_n 1, 1) := by decide +kernel
theorem dX9_join_1 : decode cX9_join 1 = .ok (.iconst 0, 1) := by decide +kernel
theorem dX9_join_2 : decode cX9_join 2 = .ok (.aload_n 0, 1) := by decide +kernel
theorem dX9_join_3 : decode cX9_join 3 = .ok (.aload_n 0, 1) := by decide +kernel
theorem dX9_join_4 : decode cX9_join 4 = .ok (.getfield 7, 3) := by decide +kernel
theorem dX9_join_7 : decode cX9_join 7 = .ok (.bipush 64, 2) := by decide +kernel
theorem dX9_join_9 : decode cX9_join 9 = .ok (.invokevirtual 73, 3) := by decide +kernel
theorem dX9_join_12 : decode cX9_join 12 = .ok (.iconst 2, 1) := by decide +kernel
theorem dX9_join_13 : decode cX9_join 13 = .ok (.isub, 1) := by decide +kernel
theorem dX9_join_14 : decode cX9_join 14 = .ok (.invokestatic 57, 3) := by decide +kernel
theorem dX9_join_17 : decode cX9_join 17 = .ok (.ifCond .ne 6, 3) := by decide +kernel
theorem dX9_join_20 : decode cX9_join 20 = .ok (.ldc 93, 2) := by decide +kernel
theorem dX9_join_22 : decode cX9_join 22 = .ok (.ireturn, 1) := by decide +kernel
theorem dX9_join_23 : decode cX9_join 23 = .ok (.aload_n 0, 1) := by decide +kernel
theorem dX9_join_24 : decode cX9_join 24 = .ok (.invokevirtual 161, 3) := by decide +kernel
theorem dX9_join_27 : decode cX9_join 27 = .ok (.iconst 0, 1) := by decide +kernel
theorem dX9_join_28 : decode cX9_join 28 = .ok (.istore_n 2, 1) := by decide +kernel
theorem dX9_join_29 : decode cX9_join 29 = .ok (.iload_n 2, 1) := by decide +kernel
theorem dX9_join_30 : decode cX9_join 30 = .ok (.aload_n 0, 1) := by decide +kernel
theorem dX9_join_31 : decode cX9_join 31 = .ok (.getfield 7, 3) := by decide +kernel
theorem dX9_join_34 : decode cX9_join 34 = .ok (.iconst 0, 1) := by decide +kernel
theorem dX9_join_35 : decode cX9_join 35 = .ok (.iaload, 1) := by decide +kernel
theorem dX9_join_36 : decode cX9_join 36 = .ok (.if_icmp .ge 39, 3) := by decide +kernel
theorem dX9_join_39 : decode cX9_join 39 = .ok (.aload_n 0, 1) := by decide +kernel
theorem dX9_join_40 : decode cX9_join 40 = .ok (.getfield 7, 3) := by decide +kernel
theorem dX9_join_43 : decode cX9_join 43 = .ok (.bipush 64, 2) := by decide +kernel
theorem dX9_join_45 : decode cX9_join 45 = .ok (.iload_n 2, 1) := by decide +kernel
theorem dX9_join_46 : decode cX9_join 46 = .ok (.iadd, 1) := by decide +kernel
theorem dX9_join_47 : decode cX9_join 47 = .ok (.dup2, 1) := by decide +kernel
theorem dX9_join_48 : decode cX9_join 48 = .ok (.iaload, 1) := by decide +kernel
theorem dX9_join_49 : decode cX9_join 49 = .ok (.aload_n 0, 1) := by decide +kernel
theorem dX9_join_50 : decode cX9_join 50 = .ok (.getfield 7, 3) := by decide +kernel
theorem dX9_join_53 : decode cX9_join 53 = .ok (.bipush 64, 2) := by decide +kernel
theorem dX9_join_55 : decode cX9_join 55 = .ok (.iload_n 2, 1) := by decide +kernel
theorem dX9_join_56 : decode cX9_join 56 = .ok (.iadd, 1) := by decide +kernel
theorem dX9_join_57 : decode cX9_join 57 = .ok (.iaload, 1) := by decide +kernel
theorem dX9_join_58 : decode cX9_join 58 = .ok (.iload_n 1, 1) := by decide +kernel
theorem dX9_join_59 : decode cX9_join 59 = .ok (.if_icmp .le 7, 3) := by decide +kernel
theorem dX9_join_62 : decode cX9_join 62 = .ok (.iconst 1, 1) := by decide +kernel
theorem dX9_join_63 : decode cX9_join 63 = .ok (.goto 4, 3) := by decide +kernel
theorem dX9_join_66 : decode cX9_join 66 = .ok (.iconst 0, 1) := by decide +kernel
theorem dX9_join_67 : decode cX9_join 67 = .ok (.isub, 1) := by decide +kernel
theorem dX9_join_68 : decode cX9_join 68 = .ok (.iastore, 1) := by decide +kernel
theorem dX9_join_69 : decode cX9_join 69 = .ok (.iinc 2 1, 3) := by decide +kernel
theorem dX9_join_72 : decode cX9_join 72 = .ok (.goto (-43), 3) := by decide +kernel
theorem dX9_join_75 : decode cX9_join 75 = .ok (.aload_n 0, 1) := by decide +kernel
theorem dX9_join_76 : decode cX9_join 76 = .ok (.aload_n 0, 1) := by decide +kernel
theorem dX9_join_77 : decode cX9_join 77 = .ok (.getfield 7, 3) := by decide +kernel
theorem dX9_join_80 : decode cX9_join 80 = .ok (.bipush 64, 2) := by decide +kernel
theorem dX9_join_82 : decode cX9_join 82 = .ok (.invokevirtual 73, 3) := by decide +kernel
theorem dX9_join_85 : decode cX9_join 85 = .ok (.ireturn, 1) := by decide +kernel
set_option maxRecDepth 20000 in
theorem ggX9_arrange_X9_notes : GoodIn wsX9_arrange wsX9_notes := goodIn_r _ [7, 8, 9, 1, 10, 11, 6, 12, 37, 38, 39, 40, 41, 42, 43, 44, 45, 46, 47, 48, 49, 50, 51, 52, 53] (by decide +kernel) (by decide +kernel)
set_option maxRecDepth 20000 in
theorem gX9_arrange_X9_notes : GoodIn wsX9_arrange (wsV RX9 161 RX9 yX9_notes wsX9_notes) := goodIn_app (goodIn_of _ (by decide +kernel)) ggX9_arrange_X9_notes
set_option maxRecDepth 20000 in
theorem ggX9_arrange_X9_bring : GoodIn wsX9_arrange wsX9_bring := goodIn_r _ [12] (by decide +kernel) (by decide +kernel)
set_option maxRecDepth 20000 in
theorem gX9_arrange_X9_bring : GoodIn wsX9_arrange (va_wsS RX9 65 yX9_bring wsX9_bring) := goodIn_app (goodIn_of _ (by decide +kernel)) ggX9_arrange_X9_bring
set_option maxRecDepth 20000 in
theorem ggX9_arrange_X9_arranges : GoodIn wsX9_arrange wsX9_arranges := goodIn_r _ [16, 17, 1, 10, 11, 6, 12, 18, 19, 20, 21, 22, 23, 24, 25, 26, 27, 28, 37, 38, 39, 40, 41, 42, 43, 44, 45, 46, 47, 48, 49, 50, 51, 52, 53] (by decide +kernel) (by decide +kernel)
set_option maxRecDepth 20000 in
theorem gX9_arrange_X9_arranges : GoodIn wsX9_arrange (wsV RX9 116 RX9 yX9_arranges wsX9_arranges) := goodIn_app (goodIn_of _ (by decide +kernel)) ggX9_arrange_X9_arranges
set_option maxRecDepth 20000 in
theorem ggX9_arrange_X9_classes : GoodIn wsX9_arrange wsX9_classes := goodIn_r _ [32, 1, 37, 38, 39, 40, 41, 42, 43, 44, 45, 46, 47, 48, 49, 50, 51, 52, 53] (by decide +kernel) (by decide +kernel)
set_option maxRecDepth 20000 in
theorem gX9_arrange_X9_classes : GoodIn wsX9_arrange (wsV RX9 73 RX9 yX9_classes wsX9_classes) := goodIn_app (goodIn_of _ (by decide +kernel)) ggX9_arrange_X9_classes
set_option maxRecDepth 20000 in
theorem ggX9_arrange_X9_membersOf : GoodIn wsX9_arrange wsX9_membersOf := goodIn_r _ [21, 1, 37, 38, 39, 40, 41, 42, 43, 44, 45, 46, 47, 48, 49, 50, 51, 52, 53] (by decide +kernel) (by decide +kernel)
end
section
set_option maxRecDepth 20000 in
theorem gX9_arrange_X9_membersOf : GoodIn wsX9_arrange (wsV RX9 77 RX9 yX9_membersOf wsX9_membersOf) := goodIn_app (goodIn_of _ (by decide +kernel)) ggX9_arrange_X9_membersOf
set_option maxRecDepth 20000 in
theorem ggX9_arrange_X9_leastOf : GoodIn wsX9_arrange wsX9_leastOf := goodIn_r _ [36, 26, 27, 6, 28] (by decide +kernel) (by decide +kernel)
set_option maxRecDepth 20000 in
theorem gX9_arrange_X9_leastOf : GoodIn wsX9_arrange (wsV RX9 133 RX9 yX9_leastOf wsX9_leastOf) := goodIn_app (goodIn_of _ (by decide +kernel)) ggX9_arrange_X9_leastOf
theorem dX9_arrange_0 : decode cX9_arrange 0 = .ok (.aload_n 0, 1) := by decide +kernel
theorem dX9_arrange_1 : decode cX9_arrange 1 = .ok (.invokevirtual 161, 3) := by decide +kernel
theorem dX9_arrange_4 : decode cX9_arrange 4 = .ok (.aload_n 0, 1) := by decide +kernel
theorem dX9_arrange_5 : decode cX9_arrange 5 = .ok (.getfield 7, 3) := by decide +kernel
theorem dX9_arrange_8 : decode cX9_arrange 8 = .ok (.bipush 64, 2) := by decide +kernel
theorem dX9_arrange_10 : decode cX9_arrange 10 = .ok (.aload_n 0, 1) := by decide +kernel
theorem dX9_arrange_11 : decode cX9_arrange 11 = .ok (.getfield 38, 3) := by decide +kernel
theorem dX9_arrange_14 : decode cX9_arrange 14 = .ok (.iconst 0, 1) := by decide +kernel
theorem dX9_arrange_15 : decode cX9_arrange 15 = .ok (.bipush 12, 2) := by decide +kernel
theorem dX9_arrange_17 : decode cX9_arrange 17 = .ok (.invokestatic 65, 3) := by decide +kernel
theorem dX9_arrange_20 : decode cX9_arrange 20 = .ok (.aload_n 0, 1) := by decide +kernel
theorem dX9_arrange_21 : decode cX9_arrange 21 = .ok (.aload_n 0, 1) := by decide +kernel
theorem dX9_arrange_22 : decode cX9_arrange 22 = .ok (.getfield 7, 3) := by decide +kernel
theorem dX9_arrange_25 : decode cX9_arrange 25 = .ok (.bipush 64, 2) := by decide +kernel
theorem dX9_arrange_27 : decode cX9_arrange 27 = .ok (.invokevirtual 116, 3) := by decide +kernel
theorem dX9_arrange_30 : decode cX9_arrange 30 = .ok (.iconst 0, 1) := by decide +kernel
theorem dX9_arrange_31 : decode cX9_arrange 31 = .ok (.istore_n 1, 1) := by decide +kernel
theorem dX9_arrange_32 : decode cX9_arrange 32 = .ok (.iconst 0, 1) := by decide +kernel
theorem dX9_arrange_33 : decode cX9_arrange 33 = .ok (.istore_n 2, 1) := by decide +kernel
theorem dX9_arrange_34 : decode cX9_arrange 34 = .ok (.iload_n 2, 1) := by decide +kernel
theorem dX9_arrange_35 : decode cX9_arrange 35 = .ok (.aload_n 0, 1) := by decide +kernel
theorem dX9_arrange_36 : decode cX9_arrange 36 = .ok (.aload_n 0, 1) := by decide +kernel
theorem dX9_arrange_37 : decode cX9_arrange 37 = .ok (.getfield 7, 3) := by decide +kernel
theorem dX9_arrange_40 : decode cX9_arrange 40 = .ok (.bipush 64, 2) := by decide +kernel
theorem dX9_arrange_42 : decode cX9_arrange 42 = .ok (.invokevirtual 73, 3) := by decide +kernel
theorem dX9_arrange_45 : decode cX9_arrange 45 = .ok (.if_icmp .ge 43, 3) := by decide +kernel
theorem dX9_arrange_48 : decode cX9_arrange 48 = .ok (.aload_n 0, 1) := by decide +kernel
theorem dX9_arrange_49 : decode cX9_arrange 49 = .ok (.aload_n 0, 1) := by decide +kernel
theorem dX9_arrange_50 : decode cX9_arrange 50 = .ok (.aload_n 0, 1) := by decide +kernel
theorem dX9_arrange_51 : decode cX9_arrange 51 = .ok (.getfield 7, 3) := by decide +kernel
theorem dX9_arrange_54 : decode cX9_arrange 54 = .ok (.bipush 64, 2) := by decide +kernel
theorem dX9_arrange_56 : decode cX9_arrange 56 = .ok (.iload_n 2, 1) := by decide +kernel
theorem dX9_arrange_57 : decode cX9_arrange 57 = .ok (.invokevirtual 77, 3) := by decide +kernel
theorem dX9_arrange_60 : decode cX9_arrange 60 = .ok (.invokevirtual 133, 3) := by decide +kernel
theorem dX9_arrange_63 : decode cX9_arrange 63 = .ok (.istore_n 3, 1) := by decide +kernel
theorem dX9_arrange_64 : decode cX9_arrange 64 = .ok (.iload_n 1, 1) := by decide +kernel
theorem dX9_arrange_65 : decode cX9_arrange 65 = .ok (.aload_n 0, 1) := by decide +kernel
theorem dX9_arrange_66 : decode cX9_arrange 66 = .ok (.getfield 38, 3) := by decide +kernel
theorem dX9_arrange_69 : decode cX9_arrange 69 = .ok (.iload_n 3, 1) := by decide +kernel
theorem dX9_arrange_70 : decode cX9_arrange 70 = .ok (.iaload, 1) := by decide +kernel
theorem dX9_arrange_71 : decode cX9_arrange 71 = .ok (.iload_n 2, 1) := by decide +kernel
theorem dX9_arrange_72 : decode cX9_arrange 72 = .ok (.if_icmp .ne 7, 3) := by decide +kernel
theorem dX9_arrange_75 : decode cX9_arrange 75 = .ok (.iconst 0, 1) := by decide +kernel
theorem dX9_arrange_76 : decode cX9_arrange 76 = .ok (.goto 4, 3) := by decide +kernel
theorem dX9_arrange_79 : decode cX9_arrange 79 = .ok (.iconst 1, 1) := by decide +kernel
theorem dX9_arrange_80 : decode cX9_arrange 80 = .ok (.iadd, 1) := by decide +kernel
theorem dX9_arrange_81 : decode cX9_arrange 81 = .ok (.istore_n 1, 1) := by decide +kernel
theorem dX9_arrange_82 : decode cX9_arrange 82 = .ok (.iinc 2 1, 3) := by decide +kernel
theorem dX9_arrange_85 : decode cX9_arrange 85 = .ok (.goto (-51), 3) := by decide +kernel
theorem dX9_arrange_88 : decode cX9_arrange 88 = .ok (.iload_n 1, 1) := by decide +kernel
theorem dX9_arrange_89 : decode cX9_arrange 89 = .ok (.ireturn, 1) := by decide +kernel
theorem dX9_draws_0 : decode cX9_draws 0 = .ok (.aload_n 0, 1) := by decide +kernel
theorem dX9_draws_1 : decode cX9_draws 1 = .ok (.aload_n 0, 1) := by decide +kernel
theorem dX9_draws_2 : decode cX9_draws 2 = .ok (.getfield 158, 3) := by decide +kernel
theorem dX9_draws_5 : decode cX9_draws 5 = .ok (.i2l, 1) := by decide +kernel
theorem dX9_draws_6 : decode cX9_draws 6 = .ok (.ldc2_w 174, 3) := by decide +kernel
theorem dX9_draws_9 : decode cX9_draws 9 = .ok (.lmul, 1) := by decide +kernel
theorem dX9_draws_10 : decode cX9_draws 10 = .ok (.ldc2_w 176, 3) := by decide +kernel
theorem dX9_draws_13 : decode cX9_draws 13 = .ok (.ladd, 1) := by decide +kernel
theorem dX9_draws_14 : decode cX9_draws 14 = .ok (.ldc2_w 178, 3) := by decide +kernel
theorem dX9_draws_17 : decode cX9_draws 17 = .ok (.lrem, 1) := by decide +kernel
theorem dX9_draws_18 : decode cX9_draws 18 = .ok (.l2i, 1) := by decide +kernel
theorem dX9_draws_19 : decode cX9_draws 19 = .ok (.putfield 158, 3) := by decide +kernel
theorem dX9_draws_22 : decode cX9_draws 22 = .ok (.aload_n 0, 1) := by decide +kernel
theorem dX9_draws_23 : decode cX9_draws 23 = .ok (.getfield 158, 3) := by decide +kernel
theorem dX9_draws_26 : decode cX9_draws 26 = .ok (.ldc 180, 2) := by decide +kernel
theorem dX9_draws_28 : decode cX9_draws 28 = .ok (.idiv, 1) := by decide +kernel
theorem dX9_draws_29 : decode cX9_draws 29 = .ok (.iload_n 1, 1) := by decide +kernel
theorem dX9_draws_30 : decode cX9_draws 30 = .ok (.irem, 1) := by decide +kernel
theorem dX9_draws_31 : decode cX9_draws 31 = .ok (.ireturn, 1) := by decide +kernel
set_option maxRecDepth 20000 in
theorem ggX9_driftsOnce_X9_notes : GoodIn wsX9_driftsOnce wsX9_notes := goodIn_r _ [6, 7, 8, 1, 9, 10, 5, 11, 25, 26, 27, 28, 29, 30, 31, 32, 33, 34, 35, 36, 37, 38, 39, 40, 41] (by decide +kernel) (by decide +kernel)
set_option maxRecDepth 20000 in
theorem gX9_driftsOnce_X9_notes : GoodIn wsX9_driftsOnce (wsV RX9 161 RX9 yX9_notes wsX9_notes) := goodIn_app (goodIn_of _ (by decide +kernel)) ggX9_driftsOnce_X9_notes
set_option maxRecDepth 20000 in
theorem ggX9_driftsOnce_X9_draws : GoodIn wsX9_driftsOnce wsX9_draws := goodIn_r _ [15, 16, 17, 18, 19, 20, 25, 26, 27, 28, 29, 30, 31, 32, 33, 34, 35, 36, 37, 38, 39, 40, 41] (by decide +kernel) (by decide +kernel)
set_option maxRecDepth 20000 in
theorem gX9_driftsOnce_X9_draws : GoodIn wsX9_driftsOnce (wsV RX9 181 RX9 yX9_draws wsX9_draws) := goodIn_app (goodIn_of _ (by decide +kernel)) ggX9_driftsOnce_X9_draws
set_option maxRecDepth 20000 in
theorem ggX9_driftsOnce_X9_turnsEdge : GoodIn wsX9_driftsOnce wsX9_turnsEdge := goodIn_r _ [24, 1, 25, 26, 27, 28, 29, 30, 31, 32, 33, 34, 35, 36, 37, 38, 39, 40, 41] (by decide +kernel) (by decide +kernel)
set_option maxRecDepth 20000 in
theorem gX9_driftsOnce_X9_turnsEdge : GoodIn wsX9_driftsOnce (wsV RX9 164 RX9 yX9_turnsEdge wsX9_turnsEdge) := goodIn_app (goodIn_of _ (by decide +kernel)) ggX9_driftsOnce_X9_turnsEdge
theorem dX9_driftsOnce_0 : decode cX9_driftsOnce 0 = .ok (.aload_n 0, 1) := by decide +kernel
theorem dX9_driftsOnce_1 : decode cX9_driftsOnce 1 = .ok (.invokevirtual 161, 3) := by decide +kernel
theorem dX9_driftsOnce_4 : decode cX9_driftsOnce 4 = .ok (.aload_n 0, 1) := by decide +kernel
theorem dX9_driftsOnce_5 : decode cX9_driftsOnce 5 = .ok (.iconst 4, 1) := by decide +kernel
theorem dX9_driftsOnce_6 : decode cX9_driftsOnce 6 = .ok (.invokevirtual 181, 3) := by decide +kernel
theorem dX9_driftsOnce_9 : decode cX9_driftsOnce 9 = .ok (.istore_n 1, 1) := by decide +kernel
theorem dX9_driftsOnce_10 : decode cX9_driftsOnce 10 = .ok (.iload_n 1, 1) := by decide +kernel
theorem dX9_driftsOnce_11 : decode cX9_driftsOnce 11 = .ok (.iconst 3, 1) := by decide +kernel
theorem dX9_driftsOnce_12 : decode cX9_driftsOnce 12 = .ok (.if_icmp .ne 22, 3) := by decide +kernel
theorem dX9_driftsOnce_15 : decode cX9_driftsOnce 15 = .ok (.aload_n 0, 1) := by decide +kernel
theorem dX9_driftsOnce_16 : decode cX9_driftsOnce 16 = .ok (.getfield 7, 3) := by decide +kernel
theorem dX9_driftsOnce_19 : decode cX9_driftsOnce 19 = .ok (.iconst 2, 1) := by decide +kernel
theorem dX9_driftsOnce_20 : decode cX9_driftsOnce 20 = .ok (.aload_n 0, 1) := by decide +kernel
theorem dX9_driftsOnce_21 : decode cX9_driftsOnce 21 = .ok (.iconst 1, 1) := by decide +kernel
theorem dX9_driftsOnce_22 : decode cX9_driftsOnce 22 = .ok (.aload_n 0, 1) := by decide +kernel
theorem dX9_driftsOnce_23 : decode cX9_driftsOnce 23 = .ok (.getfield 7, 3) := by decide +kernel
theorem dX9_driftsOnce_26 : decode cX9_driftsOnce 26 = .ok (.iconst 0, 1) := by decide +kernel
theorem dX9_driftsOnce_27 : decode cX9_driftsOnce 27 = .ok (.iaload, 1) := by decide +kernel
theorem dX9_driftsOnce_28 : decode cX9_driftsOnce 28 = .ok (.ishl, 1) := by decide +kernel
theorem dX9_driftsOnce_29 : decode cX9_driftsOnce 29 = .ok (.invokevirtual 181, 3) := by decide +kernel
theorem dX9_driftsOnce_32 : decode cX9_driftsOnce 32 = .ok (.iastore, 1) := by decide +kernel
theorem dX9_driftsOnce_33 : decode cX9_driftsOnce 33 = .ok (.return_, 1) := by decide +kernel
theorem dX9_driftsOnce_34 : decode cX9_driftsOnce 34 = .ok (.aload_n 0, 1) := by decide +kernel
theorem dX9_driftsOnce_35 : decode cX9_driftsOnce 35 = .ok (.aload_n 0, 1) := by decide +kernel
theorem dX9_driftsOnce_36 : decode cX9_driftsOnce 36 = .ok (.getfield 7, 3) := by decide +kernel
theorem dX9_driftsOnce_39 : decode cX9_driftsOnce 39 = .ok (.iconst 0, 1) := by decide +kernel
theorem dX9_driftsOnce_40 : decode cX9_driftsOnce 40 = .ok (.iaload, 1) := by decide +kernel
theorem dX9_driftsOnce_41 : decode cX9_driftsOnce 41 = .ok (.invokevirtual 181, 3) := by decide +kernel
theorem dX9_driftsOnce_44 : decode cX9_driftsOnce 44 = .ok (.istore_n 2, 1) := by decide +kernel
theorem dX9_driftsOnce_45 : decode cX9_driftsOnce 45 = .ok (.iload_n 1, 1) := by decide +kernel
theorem dX9_driftsOnce_46 : decode cX9_driftsOnce 46 = .ok (.ifCond .ne 28, 3) := by decide +kernel
theorem dX9_driftsOnce_49 : decode cX9_driftsOnce 49 = .ok (.aload_n 0, 1) := by decide +kernel
theorem dX9_driftsOnce_50 : decode cX9_driftsOnce 50 = .ok (.aload_n 0, 1) := by decide +kernel
theorem dX9_driftsOnce_51 : decode cX9_driftsOnce 51 = .ok (.getfield 7, 3) := by decide +kernel
theorem dX9_driftsOnce_54 : decode cX9_driftsOnce 54 = .ok (.iconst 0, 1) := by decide +kernel
theorem dX9_driftsOnce_55 : decode cX9_driftsOnce 55 = .ok (.iaload, 1) := by decide +kernel
theorem dX9_driftsOnce_56 : decode cX9_driftsOnce 56 = .ok (.invokevirtual 181, 3) := by decide +kernel
theorem dX9_driftsOnce_59 : decode cX9_driftsOnce 59 = .ok (.istore_n 3, 1) := by decide +kernel
theorem dX9_driftsOnce_60 : decode cX9_driftsOnce 60 = .ok (.iload_n 2, 1) := by decide +kernel
theorem dX9_driftsOnce_61 : decode cX9_driftsOnce 61 = .ok (.iload_n 3, 1) := by decide +kernel
theorem dX9_driftsOnce_62 : decode cX9_driftsOnce 62 = .ok (.if_icmp .eq 9, 3) := by decide +kernel
theorem dX9_driftsOnce_65 : decode cX9_driftsOnce 65 = .ok (.aload_n 0, 1) := by decide +kernel
theorem dX9_driftsOnce_66 : decode cX9_driftsOnce 66 = .ok (.iload_n 2, 1) := by decide +kernel
theorem dX9_driftsOnce_67 : decode cX9_driftsOnce 67 = .ok (.iload_n 3, 1) := by decide +kernel
theorem dX9_driftsOnce_68 : decode cX9_driftsOnce 68 = .ok (.invokevirtual 164, 3) := by decide +kernel
theorem dX9_driftsOnce_71 : decode cX9_driftsOnce 71 = .ok (.goto 60, 3) := by decide +kernel
theorem dX9_driftsOnce_74 : decode cX9_driftsOnce 74 = .ok (.iload_n 1, 1) := by decide +kernel
theorem dX9_driftsOnce_75 : decode cX9_driftsOnce 75 = .ok (.iconst 1, 1) := by decide +kernel
theorem dX9_driftsOnce_76 : decode cX9_driftsOnce 76 = .ok (.if_icmp .ne 21, 3) := by decide +kernel
theorem dX9_driftsOnce_79 : decode cX9_driftsOnce 79 = .ok (.aload_n 0, 1) := by decide +kernel
theorem dX9_driftsOnce_80 : decode cX9_driftsOnce 80 = .ok (.getfield 7, 3) := by decide +kernel
theorem dX9_driftsOnce_83 : decode cX9_driftsOnce 83 = .ok (.iconst 4, 1) := by decide +kernel
theorem dX9_driftsOnce_84 : decode cX9_driftsOnce 84 = .ok (.iload_n 2, 1) := by decide +kernel
theorem dX9_driftsOnce_85 : decode cX9_driftsOnce 85 = .ok (.iadd, 1) := by decide +kernel
theorem dX9_driftsOnce_86 : decode cX9_driftsOnce 86 = .ok (.aload_n 0, 1) := by decide +kernel
theorem dX9_driftsOnce_87 : decode cX9_driftsOnce 87 = .ok (.sipush 256, 3) := by decide +kernel
theorem dX9_driftsOnce_90 : decode cX9_driftsOnce 90 = .ok (.invokevirtual 181, 3) := by decide +kernel
theorem dX9_driftsOnce_93 : decode cX9_driftsOnce 93 = .ok (.iastore, 1) := by decide +kernel
theorem dX9_driftsOnce_94 : decode cX9_driftsOnce 94 = .ok (.goto 37, 3) := by decide +kernel
theorem dX9_driftsOnce_97 : decode cX9_driftsOnce 97 = .ok (.aload_n 0, 1) := by decide +kernel
theorem dX9_driftsOnce_98 : decode cX9_driftsOnce 98 = .ok (.aload_n 0, 1) := by decide +kernel
theorem dX9_driftsOnce_99 : decode cX9_driftsOnce 99 = .ok (.getfield 7, 3) := by decide +kernel
theorem dX9_driftsOnce_102 : decode cX9_driftsOnce 102 = .ok (.iconst 1, 1) := by decide +kernel
theorem dX9_driftsOnce_103 : decode cX9_driftsOnce 103 = .ok (.iaload, 1) := by decide +kernel
theorem dX9_driftsOnce_104 : decode cX9_driftsOnce 104 = .ok (.invokevirtual 181, 3) := by decide +kernel
theorem dX9_driftsOnce_107 : decode cX9_driftsOnce 107 = .ok (.istore_n 3, 1) := by decide +kernel
theorem dX9_driftsOnce_108 : decode cX9_driftsOnce 108 = .ok (.aload_n 0, 1) := by decide +kernel
theorem dX9_driftsOnce_109 : decode cX9_driftsOnce 109 = .ok (.getfield 7, 3) := by decide +kernel
theorem dX9_driftsOnce_112 : decode cX9_driftsOnce 112 = .ok (.bipush 28, 2) := by decide +kernel
theorem dX9_driftsOnce_114 : decode cX9_driftsOnce 114 = .ok (.iconst 3, 1) := by decide +kernel
theorem dX9_driftsOnce_115 : decode cX9_driftsOnce 115 = .ok (.iload_n 2, 1) := by decide +kernel
theorem dX9_driftsOnce_116 : decode cX9_driftsOnce 116 = .ok (.imul, 1) := by decide +kernel
theorem dX9_driftsOnce_117 : decode cX9_driftsOnce 117 = .ok (.iadd, 1) := by decide +kernel
theorem dX9_driftsOnce_118 : decode cX9_driftsOnce 118 = .ok (.iload_n 3, 1) := by decide +kernel
theorem dX9_driftsOnce_119 : decode cX9_driftsOnce 119 = .ok (.iadd, 1) := by decide +kernel
theorem dX9_driftsOnce_120 : decode cX9_driftsOnce 120 = .ok (.aload_n 0, 1) := by decide +kernel
theorem dX9_driftsOnce_121 : decode cX9_driftsOnce 121 = .ok (.aload_n 0, 1) := by decide +kernel
theorem dX9_driftsOnce_122 : decode cX9_driftsOnce 122 = .ok (.getfield 7, 3) := by decide +kernel
theorem dX9_driftsOnce_125 : decode cX9_driftsOnce 125 = .ok (.iconst 0, 1) := by decide +kernel
theorem dX9_driftsOnce_126 : decode cX9_driftsOnce 126 = .ok (.iaload, 1) := by decide +kernel
theorem dX9_driftsOnce_127 : decode cX9_driftsOnce 127 = .ok (.invokevirtual 181, 3) := by decide +kernel
theorem dX9_driftsOnce_130 : decode cX9_driftsOnce 130 = .ok (.iastore, 1) := by decide +kernel
theorem dX9_driftsOnce_131 : decode cX9_driftsOnce 131 = .ok (.return_, 1) := by decide +kernel
set_option maxRecDepth 20000 in
theorem ggX9_drift_X9_in : GoodIn wsX9_drift wsX9_in := goodIn_r _ [5] (by decide +kernel) (by decide +kernel)
set_option maxRecDepth 20000 in
theorem gX9_drift_X9_in : GoodIn wsX9_drift (va_wsS RX9 57 yX9_in wsX9_in) := goodIn_app (goodIn_of _ (by decide +kernel)) ggX9_drift_X9_in
set_option maxRecDepth 20000 in
theorem ggX9_drift_X9_driftsOnce : GoodIn wsX9_drift wsX9_driftsOnce := goodIn_r _ [9, 10, 11, 12, 13, 4, 14, 15, 16, 17, 18, 19, 20, 21, 22, 23, 24, 25, 26, 27, 28, 29, 30, 31, 32, 40, 41, 42, 43, 44, 45, 46, 47, 48, 49, 50, 51, 52, 53, 54, 55, 56] (by decide +kernel) (by decide +kernel)
set_option maxRecDepth 20000 in
theorem gX9_drift_X9_driftsOnce : GoodIn wsX9_drift (wsV RX9 184 RX9 yX9_driftsOnce wsX9_driftsOnce) := goodIn_app (goodIn_of _ (by decide +kernel)) ggX9_drift_X9_driftsOnce
set_option maxRecDepth 20000 in
theorem ggX9_drift_X9_edgesNow : GoodIn wsX9_drift wsX9_edgesNow := goodIn_r _ [36, 10, 37, 38, 4, 39, 40, 41, 42, 43, 44, 45, 46, 47, 48, 49, 50, 51, 52, 53, 54, 55, 56] (by decide +kernel) (by decide +kernel)
set_option maxRecDepth 20000 in
theorem gX9_drift_X9_edgesNow : GoodIn wsX9_drift (wsV RX9 146 RX9 yX9_edgesNow wsX9_edgesNow) := goodIn_app (goodIn_of _ (by decide +kernel)) ggX9_drift_X9_edgesNow
theorem dX9_drift_0 : decode cX9_drift 0 = .ok (.iload_n 1, 1) := by decide +kernel
theorem dX9_drift_1 : decode cX9_drift 1 = .ok (.iconst 1, 1) := by decide +kernel
theorem dX9_drift_2 : decode cX9_drift 2 = .ok (.bipush 12, 2) := by decide +kernel
theorem dX9_drift_4 : decode cX9_drift 4 = .ok (.invokestatic 57, 3) := by decide +kernel
theorem dX9_drift_7 : decode cX9_drift 7 = .ok (.ifCond .ne 6, 3) := by decide +kernel
theorem dX9_drift_10 : decode cX9_drift 10 = .ok (.ldc 94, 2) := by decide +kernel
theorem dX9_drift_12 : decode cX9_drift 12 = .ok (.ireturn, 1) := by decide +kernel
theorem dX9_drift_13 : decode cX9_drift 13 = .ok (.iconst 0, 1) := by decide +kernel
theorem dX9_drift_14 : decode cX9_drift 14 = .ok (.istore_n 2, 1) := by decide +kernel
theorem dX9_drift_15 : decode cX9_drift 15 = .ok (.iload_n 2, 1) := by decide +kernel
theorem dX9_drift_16 : decode cX9_drift 16 = .ok (.iload_n 1, 1) := by decide +kernel
theorem dX9_drift_17 : decode cX9_drift 17 = .ok (.if_icmp .ge 13, 3) := by decide +kernel
theorem dX9_drift_20 : decode cX9_drift 20 = .ok (.aload_n 0, 1) := by decide +kernel
theorem dX9_drift_21 : decode cX9_drift 21 = .ok (.invokevirtual 184, 3) := by decide +kernel
theorem dX9_drift_24 : decode cX9_drift 24 = .ok (.iinc 2 1, 3) := by decide +kernel
theorem dX9_drift_27 : decode cX9_drift 27 = .ok (.goto (-12), 3) := by decide +kernel
theorem dX9_drift_30 : decode cX9_drift 30 = .ok (.aload_n 0, 1) := by decide +kernel
theorem dX9_drift_31 : decode cX9_drift 31 = .ok (.invokevirtual 146, 3) := by decide +kernel
theorem dX9_drift_34 : decode cX9_drift 34 = .ok (.ireturn, 1) := by decide +kernel
set_option maxRecDepth 20000 in
theorem ggX9_undo_X9_in : GoodIn wsX9_undo wsX9_in := goodIn_r _ [9] (by decide +kernel) (by decide +kernel)
set_option maxRecDepth 20000 in
theorem gX9_undo_X9_in : GoodIn wsX9_undo (va_wsS RX9 57 yX9_in wsX9_in) := goodIn_app (goodIn_of _ (by decide +kernel)) ggX9_undo_X9_in
set_option maxRecDepth 20000 in
theorem ggX9_undo_X9_bring : GoodIn wsX9_undo wsX9_bring := goodIn_r _ [12] (by decide +kernel) (by decide +kernel)
set_option maxRecDepth 20000 in
theorem gX9_undo_X9_bring : GoodIn wsX9_undo (va_wsS RX9 65 yX9_bring wsX9_bring) := goodIn_app (goodIn_of _ (by decide +kernel)) ggX9_undo_X9_bring
theorem dX9_undo_0 : decode cX9_undo 0 = .ok (.iload_n 1, 1) := by decide +kernel
theorem dX9_undo_1 : decode cX9_undo 1 = .ok (.iconst 1, 1) := by decide +kernel
theorem dX9_undo_2 : decode cX9_undo 2 = .ok (.bipush 16, 2) := by decide +kernel
theorem dX9_undo_4 : decode cX9_undo 4 = .ok (.invokestatic 57, 3) := by decide +kernel
theorem dX9_undo_7 : decode cX9_undo 7 = .ok (.ifCond .ne 6, 3) := by decide +kernel
theorem dX9_undo_10 : decode cX9_undo 10 = .ok (.ldc 94, 2) := by decide +kernel
theorem dX9_undo_12 : decode cX9_undo 12 = .ok (.ireturn, 1) := by decide +kernel
theorem dX9_undo_13 : decode cX9_undo 13 = .ok (.iload_n 1, 1) := by decide +kernel
theorem dX9_undo_14 : decode cX9_undo 14 = .ok (.aload_n 0, 1) := by decide +kernel
theorem dX9_undo_15 : decode cX9_undo 15 = .ok (.getfield 61, 3) := by decide +kernel
theorem dX9_undo_18 : decode cX9_undo 18 = .ok (.if_icmp .le 6, 3) := by decide +kernel
theorem dX9_undo_21 : decode cX9_undo 21 = .ok (.ldc 187, 2) := by decide +kernel
theorem dX9_undo_23 : decode cX9_undo 23 = .ok (.ireturn, 1) := by decide +kernel
theorem dX9_undo_24 : decode cX9_undo 24 = .ok (.aload_n 0, 1) := by decide +kernel
theorem dX9_undo_25 : decode cX9_undo 25 = .ok (.dup, 1) := by decide +kernel
theorem dX9_undo_26 : decode cX9_undo 26 = .ok (.getfield 61, 3) := by decide +kernel
theorem dX9_undo_29 : decode cX9_undo 29 = .ok (.iload_n 1, 1) := by decide +kernel
theorem dX9_undo_30 : decode cX9_undo 30 = .ok (.isub, 1) := by decide +kernel
theorem dX9_undo_31 : decode cX9_undo 31 = .ok (.putfield 61, 3) := by decide +kernel
theorem dX9_undo_34 : decode cX9_undo 34 = .ok (.aload_n 0, 1) := by decide +kernel
theorem dX9_undo_35 : decode cX9_undo 35 = .ok (.getfield 13, 3) := by decide +kernel
theorem dX9_undo_38 : decode cX9_undo 38 = .ok (.bipush 76, 2) := by decide +kernel
theorem dX9_undo_40 : decode cX9_undo 40 = .ok (.aload_n 0, 1) := by decide +kernel
theorem dX9_undo_41 : decode cX9_undo 41 = .ok (.getfield 61, 3) := by decide +kernel
theorem dX9_undo_44 : decode cX9_undo 44 = .ok (.imul, 1) := by decide +kernel
theorem dX9_undo_45 : decode cX9_undo 45 = .ok (.aload_n 0, 1) := by decide +kernel
theorem dX9_undo_46 : decode cX9_undo 46 = .ok (.getfield 7, 3) := by decide +kernel
theorem dX9_undo_49 : decode cX9_undo 49 = .ok (.iconst 0, 1) := by decide +kernel
theorem dX9_undo_50 : decode cX9_undo 50 = .ok (.bipush 76, 2) := by decide +kernel
theorem dX9_undo_52 : decode cX9_undo 52 = .ok (.invokestatic 65, 3) := by decide +kernel
theorem dX9_undo_55 : decode cX9_undo 55 = .ok (.aload_n 0, 1) := by decide +kernel
theorem dX9_undo_56 : decode cX9_undo 56 = .ok (.getfield 61, 3) := by decide +kernel
theorem dX9_undo_59 : decode cX9_undo 59 = .ok (.ireturn, 1) := by decide +kernel
set_option maxRecDepth 20000 in
theorem ggX9_write_X9_isItem : GoodIn wsX9_write wsX9_isItem := goodIn_r _ [10, 11, 12, 13, 9, 14, 15, 16, 17, 18, 19, 20, 21, 22, 23, 24, 25, 26, 27, 28, 29, 30, 31] (by decide +kernel) (by decide +kernel)
set_option maxRecDepth 20000 in
theorem gX9_write_X9_isItem : GoodIn wsX9_write (wsV RX9 89 RX9 yX9_isItem wsX9_isItem) := goodIn_app (goodIn_of _ (by decide +kernel)) ggX9_write_X9_isItem
theorem dX9_write_0 : decode cX9_write 0 = .ok (.aload_n 0, 1) := by decide +kernel
theorem dX9_write_1 : decode cX9_write 1 = .ok (.iload_n 1, 1) := by decide +kernel
theorem dX9_write_2 : decode cX9_write 2 = .ok (.invokevirtual 89, 3) := by decide +kernel
theorem dX9_write_5 : decode cX9_write 5 = .ok (.ifCond .ne 6, 3) := by decide +kernel
theorem dX9_write_8 : decode cX9_write 8 = .ok (.ldc 93, 2) := by decide +kernel
theorem dX9_write_10 : decode cX9_write 10 = .ok (.ireturn, 1) := by decide +kernel
theorem dX9_write_11 : decode cX9_write 11 = .ok (.aload_n 0, 1) := by decide +kernel
theorem dX9_write_12 : decode cX9_write 12 = .ok (.getfield 143, 3) := by decide +kernel
theorem dX9_write_15 : decode cX9_write 15 = .ok (.bipush 20, 2) := by decide +kernel
theorem dX9_write_17 : decode cX9_write 17 = .ok (.if_icmp .ne 6, 3) := by decide +kernel
theorem dX9_write_20 : decode cX9_write 20 = .ok (.ldc 188, 2) := by decide +kernel
theorem dX9_write_22 : decode cX9_write 22 = .ok (.ireturn, 1) := by decide +kernel
theorem dX9_write_23 : decode cX9_write 23 = .ok (.aload_n 0, 1) := by decide +kernel
theorem dX9_write_24 : decode cX9_write 24 = .ok (.getfield 23, 3) := by decide +kernel
theorem dX9_write_27 : decode cX9_write 27 = .ok (.aload_n 0, 1) := by decide +kernel
theorem dX9_write_28 : decode cX9_write 28 = .ok (.getfield 143, 3) := by decide +kernel
theorem dX9_write_31 : decode cX9_write 31 = .ok (.iload_n 1, 1) := by decide +kernel
theorem dX9_write_32 : decode cX9_write 32 = .ok (.iastore, 1) := by decide +kernel
theorem dX9_write_33 : decode cX9_write 33 = .ok (.aload_n 0, 1) := by decide +kernel
theorem dX9_write_34 : decode cX9_write 34 = .ok (.getfield 26, 3) := by decide +kernel
theorem dX9_write_37 : decode cX9_write 37 = .ok (.aload_n 0, 1) := by decide +kernel
theorem dX9_write_38 : decode cX9_write 38 = .ok (.getfield 143, 3) := by decide +kernel
theorem dX9_write_41 : decode cX9_write 41 = .ok (.iload_n 2, 1) := by decide +kernel
theorem dX9_write_42 : decode cX9_write 42 = .ok (.iastore, 1) := by decide +kernel
theorem dX9_write_43 : decode cX9_write 43 = .ok (.aload_n 0, 1) := by decide +kernel
theorem dX9_write_44 : decode cX9_write 44 = .ok (.dup, 1) := by decide +kernel
theorem dX9_write_45 : decode cX9_write 45 = .ok (.getfield 143, 3) := by decide +kernel
theorem dX9_write_48 : decode cX9_write 48 = .ok (.iconst 1, 1) := by decide +kernel
theorem dX9_write_49 : decode cX9_write 49 = .ok (.iadd, 1) := by decide +kernel
theorem dX9_write_50 : decode cX9_write 50 = .ok (.putfield 143, 3) := by decide +kernel
theorem dX9_write_53 : decode cX9_write 53 = .ok (.aload_n 0, 1) := by decide +kernel
theorem dX9_write_54 : decode cX9_write 54 = .ok (.getfield 143, 3) := by decide +kernel
theorem dX9_write_57 : decode cX9_write 57 = .ok (.ireturn, 1) := by decide +kernel
theorem dX9_tear_0 : decode cX9_tear 0 = .ok (.aload_n 0, 1) := by decide +kernel
theorem dX9_tear_1 : decode cX9_tear 1 = .ok (.getfield 143, 3) := by decide +kernel
theorem dX9_tear_4 : decode cX9_tear 4 = .ok (.istore_n 1, 1) := by decide +kernel
theorem dX9_tear_5 : decode cX9_tear 5 = .ok (.aload_n 0, 1) := by decide +kernel
theorem dX9_tear_6 : decode cX9_tear 6 = .ok (.iconst 0, 1) := by decide +kernel
theorem dX9_tear_7 : decode cX9_tear 7 = .ok (.putfield 143, 3) := by decide +kernel
theorem dX9_tear_10 : decode cX9_tear 10 = .ok (.iload_n 1, 1) := by decide +kernel
theorem dX9_tear_11 : decode cX9_tear 11 = .ok (.ireturn, 1) := by decide +kernel
theorem dX9_seed_0 : decode cX9_seed 0 = .ok (.iload_n 1, 1) := by decide +kernel
theorem dX9_seed_1 : decode cX9_seed 1 = .ok (.ifCond .ge 6, 3) := by decide +kernel
theorem dX9_seed_4 : decode cX9_seed 4 = .ok (.ldc 94, 2) := by decide +kernel
theorem dX9_seed_6 : decode cX9_seed 6 = .ok (.ireturn, 1) := by decide +kernel
theorem dX9_seed_7 : decode cX9_seed 7 = .ok (.aload_n 0, 1) := by decide +kernel
theorem dX9_seed_8 : decode cX9_seed 8 = .ok (.getfield 158, 3) := by decide +kernel
theorem dX9_seed_11 : decode cX9_seed 11 = .ok (.istore_n 2, 1) := by decide +kernel
theorem dX9_seed_12 : decode cX9_seed 12 = .ok (.aload_n 0, 1) := by decide +kernel
theorem dX9_seed_13 : decode cX9_seed 13 = .ok (.iload_n 1, 1) := by decide +kernel
theorem dX9_seed_14 : decode cX9_seed 14 = .ok (.putfield 158, 3) := by decide +kernel
theorem dX9_seed_17 : decode cX9_seed 17 = .ok (.iload_n 2, 1) := by decide +kernel
theorem dX9_seed_18 : decode cX9_seed 18 = .ok (.ireturn, 1) := by decide +kernel
set_option maxRecDepth 20000 in
theorem ggX9_keep_X9_in : GoodIn wsX9_keep wsX9_in := goodIn_r _ [10] (by decide +kernel) (by decide +kernel)
set_option maxRecDepth 20000 in
theorem gX9_keep_X9_in : GoodIn wsX9_keep (va_wsS RX9 57 yX9_in wsX9_in) := goodIn_app (goodIn_of _ (by decide +kernel)) ggX9_keep_X9_in
set_option maxRecDepth 20000 in
theorem ggX9_keep_X9_bring : GoodIn wsX9_keep wsX9_bring := goodIn_r _ [13] (by decide +kernel) (by decide +kernel)
set_option maxRecDepth 20000 in
theorem gX9_keep_X9_bring : GoodIn wsX9_keep (va_wsS RX9 65 yX9_bring wsX9_bring) := goodIn_app (goodIn_of _ (by decide +kernel)) ggX9_keep_X9_bring
theorem dX9_keep_0 : decode cX9_keep 0 = .ok (.iload_n 1, 1) := by decide +kernel
theorem dX9_keep_1 : decode cX9_keep 1 = .ok (.iconst 0, 1) := by decide +kernel
theorem dX9_keep_2 : decode cX9_keep 2 = .ok (.iconst 1, 1) := by decide +kernel
theorem dX9_keep_3 : decode cX9_keep 3 = .ok (.invokestatic 57, 3) := by decide +kernel
theorem dX9_keep_6 : decode cX9_keep 6 = .ok (.ifCond .ne 6, 3) := by decide +kernel
theorem dX9_keep_9 : decode cX9_keep 9 = .ok (.ldc 93, 2) := by decide +kernel
theorem dX9_keep_11 : decode cX9_keep 11 = .ok (.ireturn, 1) := by decide +kernel
theorem dX9_keep_12 : decode cX9_keep 12 = .ok (.aload_n 0, 1) := by decide +kernel
theorem dX9_keep_13 : decode cX9_keep 13 = .ok (.getfield 19, 3) := by decide +kernel
theorem dX9_keep_16 : decode cX9_keep 16 = .ok (.iload_n 1, 1) := by decide +kernel
theorem dX9_keep_17 : decode cX9_keep 17 = .ok (.iconst 1, 1) := by decide +kernel
theorem dX9_keep_18 : decode cX9_keep 18 = .ok (.bastore, 1) := by decide +kernel
theorem dX9_keep_19 : decode cX9_keep 19 = .ok (.aload_n 0, 1) := by decide +kernel
theorem dX9_keep_20 : decode cX9_keep 20 = .ok (.getfield 7, 3) := by decide +kernel
theorem dX9_keep_23 : decode cX9_keep 23 = .ok (.iconst 0, 1) := by decide +kernel
theorem dX9_keep_24 : decode cX9_keep 24 = .ok (.aload_n 0, 1) := by decide +kernel
theorem dX9_keep_25 : decode cX9_keep 25 = .ok (.getfield 16, 3) := by decide +kernel
theorem dX9_keep_28 : decode cX9_keep 28 = .ok (.bipush 77, 2) := by decide +kernel
theorem dX9_keep_30 : decode cX9_keep 30 = .ok (.iload_n 1, 1) := by decide +kernel
theorem dX9_keep_31 : decode cX9_keep 31 = .ok (.imul, 1) := by decide +kernel
theorem dX9_keep_32 : decode cX9_keep 32 = .ok (.bipush 76, 2) := by decide +kernel
theorem dX9_keep_34 : decode cX9_keep 34 = .ok (.invokestatic 65, 3) := by decide +kernel
theorem dX9_keep_37 : decode cX9_keep 37 = .ok (.aload_n 0, 1) := by decide +kernel
theorem dX9_keep_38 : decode cX9_keep 38 = .ok (.getfield 16, 3) := by decide +kernel
theorem dX9_keep_41 : decode cX9_keep 41 = .ok (.bipush 77, 2) := by decide +kernel
theorem dX9_keep_43 : decode cX9_keep 43 = .ok (.iload_n 1, 1) := by decide +kernel
theorem dX9_keep_44 : decode cX9_keep 44 = .ok (.imul, 1) := by decide +kernel
theorem dX9_keep_45 : decode cX9_keep 45 = .ok (.bipush 76, 2) := by decide +kernel
theorem dX9_keep_47 : decode cX9_keep 47 = .ok (.iadd, 1) := by decide +kernel
theorem dX9_keep_48 : decode cX9_keep 48 = .ok (.aload_n 0, 1) := by decide +kernel
theorem dX9_keep_49 : decode cX9_keep 49 = .ok (.getfield 158, 3) := by decide +kernel
theorem dX9_keep_52 : decode cX9_keep 52 = .ok (.iastore, 1) := by decide +kernel
theorem dX9_keep_53 : decode cX9_keep 53 = .ok (.aload_n 0, 1) := by decide +kernel
theorem dX9_keep_54 : decode cX9_keep 54 = .ok (.iconst 0, 1) := by decide +kernel
theorem dX9_keep_55 : decode cX9_keep 55 = .ok (.putfield 61, 3) := by decide +kernel
theorem dX9_keep_58 : decode cX9_keep 58 = .ok (.iconst 1, 1) := by decide +kernel
theorem dX9_keep_59 : decode cX9_keep 59 = .ok (.ireturn, 1) := by decide +kernel
set_option maxRecDepth 20000 in
theorem ggX9_goBack_X9_in : GoodIn wsX9_goBack wsX9_in := goodIn_r _ [11] (by decide +kernel) (by decide +kernel)
set_option maxRecDepth 20000 in
theorem gX9_goBack_X9_in : GoodIn wsX9_goBack (va_wsS RX9 57 yX9_in wsX9_in) := goodIn_app (goodIn_of _ (by decide +kernel)) ggX9_goBack_X9_in
set_option maxRecDepth 20000 in
theorem ggX9_goBack_X9_bring : GoodIn wsX9_goBack wsX9_bring := goodIn_r _ [14] (by decide +kernel) (by decide +kernel)
set_option maxRecDepth 20000 in
theorem gX9_goBack_X9_bring : GoodIn wsX9_goBack (va_wsS RX9 65 yX9_bring wsX9_bring) := goodIn_app (goodIn_of _ (by decide +kernel)) ggX9_goBack_X9_bring
theorem dX9_goBack_0 : decode cX9_goBack 0 = .ok (.iload_n 1, 1) := by decide +kernel
theorem dX9_goBack_1 : decode cX9_goBack 1 = .ok (.iconst 0, 1) := by decide +kernel
theorem dX9_goBack_2 : decode cX9_goBack 2 = .ok (.iconst 1, 1) := by decide +kernel
theorem dX9_goBack_3 : decode cX9_goBack 3 = .ok (.invokestatic 57, 3) := by decide +kernel
theorem dX9_goBack_6 : decode cX9_goBack 6 = .ok (.ifCond .ne 6, 3) := by decide +kernel
theorem dX9_goBack_9 : decode cX9_goBack 9 = .ok (.ldc 93, 2) := by decide +kernel
theorem dX9_goBack_11 : decode cX9_goBack 11 = .ok (.ireturn, 1) := by decide +kernel
theorem dX9_goBack_12 : decode cX9_goBack 12 = .ok (.aload_n 0, 1) := by decide +kernel
theorem dX9_goBack_13 : decode cX9_goBack 13 = .ok (.getfield 19, 3) := by decide +kernel
theorem dX9_goBack_16 : decode cX9_goBack 16 = .ok (.iload_n 1, 1) := by decide +kernel
theorem dX9_goBack_17 : decode cX9_goBack 17 = .ok (.baload, 1) := by decide +kernel
theorem dX9_goBack_18 : decode cX9_goBack 18 = .ok (.ifCond .ne 6, 3) := by decide +kernel
theorem dX9_goBack_21 : decode cX9_goBack 21 = .ok (.ldc 187, 2) := by decide +kernel
theorem dX9_goBack_23 : decode cX9_goBack 23 = .ok (.ireturn, 1) := by decide +kernel
theorem dX9_goBack_24 : decode cX9_goBack 24 = .ok (.aload_n 0, 1) := by decide +kernel
theorem dX9_goBack_25 : decode cX9_goBack 25 = .ok (.getfield 16, 3) := by decide +kernel
theorem dX9_goBack_28 : decode cX9_goBack 28 = .ok (.bipush 77, 2) := by decide +kernel
theorem dX9_goBack_30 : decode cX9_goBack 30 = .ok (.iload_n 1, 1) := by decide +kernel
theorem dX9_goBack_31 : decode cX9_goBack 31 = .ok (.imul, 1) := by decide +kernel
theorem dX9_goBack_32 : decode cX9_goBack 32 = .ok (.aload_n 0, 1) := by decide +kernel
theorem dX9_goBack_33 : decode cX9_goBack 33 = .ok (.getfield 7, 3) := by decide +kernel
theorem dX9_goBack_36 : decode cX9_goBack 36 = .ok (.iconst 0, 1) := by decide +kernel
theorem dX9_goBack_37 : decode cX9_goBack 37 = .ok (.bipush 76, 2) := by decide +kernel
theorem dX9_goBack_39 : decode cX9_goBack 39 = .ok (.invokestatic 65, 3) := by decide +kernel
theorem dX9_goBack_42 : decode cX9_goBack 42 = .ok (.aload_n 0, 1) := by decide +kernel
theorem dX9_goBack_43 : decode cX9_goBack 43 = .ok (.aload_n 0, 1) := by decide +kernel
theorem dX9_goBack_44 : decode cX9_goBack 44 = .ok (.getfield 16, 3) := by decide +kernel
theorem dX9_goBack_47 : decode cX9_goBack 47 = .ok (.bipush 77, 2) := by decide +kernel
theorem dX9_goBack_49 : decode cX9_goBack 49 = .ok (.iload_n 1, 1) := by decide +kernel
theorem dX9_goBack_50 : decode cX9_goBack 50 = .ok (.imul, 1) := by decide +kernel
theorem dX9_goBack_51 : decode cX9_goBack 51 = .ok (.bipush 76, 2) := by decide +kernel
theorem dX9_goBack_53 : decode cX9_goBack 53 = .ok (.iadd, 1) := by decide +kernel
theorem dX9_goBack_54 : decode cX9_goBack 54 = .ok (.iaload, 1) := by decide +kernel
theorem dX9_goBack_55 : decode cX9_goBack 55 = .ok (.putfield 158, 3) := by decide +kernel
theorem dX9_goBack_58 : decode cX9_goBack 58 = .ok (.aload_n 0, 1) := by decide +kernel
theorem dX9_goBack_59 : decode cX9_goBack 59 = .ok (.iconst 0, 1) := by decide +kernel
theorem dX9_goBack_60 : decode cX9_goBack 60 = .ok (.putfield 61, 3) := by decide +kernel
theorem dX9_goBack_63 : decode cX9_goBack 63 = .ok (.iconst 1, 1) := by decide +kernel
theorem dX9_goBack_64 : decode cX9_goBack 64 = .ok (.ireturn, 1) := by decide +kernel
theorem dJ6_numberOfTrailingZeros_0f7a4_0 : decode cJ6_numberOfTrailingZeros_0f7a4 0 = .ok (.iload_n 0, 1) := by decide +kernel
theorem dJ6_numberOfTrailingZeros_0f7a4_1 : decode cJ6_numberOfTrailingZeros_0f7a4 1 = .ok (.iconst (-1), 1) := by decide +kernel
theorem dJ6_numberOfTrailingZeros_0f7a4_2 : decode cJ6_numberOfTrailingZeros_0f7a4 2 = .ok (.ixor, 1) := by decide +kernel
theorem dJ6_numberOfTrailingZeros_0f7a4_3 : decode cJ6_numberOfTrailingZeros_0f7a4 3 = .ok (.iload_n 0, 1) := by decide +kernel
theorem dJ6_numberOfTrailingZeros_0f7a4_4 : decode cJ6_numberOfTrailingZeros_0f7a4 4 = .ok (.iconst 1, 1) := by decide +kernel
theorem dJ6_numberOfTrailingZeros_0f7a4_5 : decode cJ6_numberOfTrailingZeros_0f7a4 5 = .ok (.isub, 1) := by decide +kernel
theorem dJ6_numberOfTrailingZeros_0f7a4_6 : decode cJ6_numberOfTrailingZeros_0f7a4 6 = .ok (.iand, 1) := by decide +kernel
theorem dJ6_numberOfTrailingZeros_0f7a4_7 : decode cJ6_numberOfTrailingZeros_0f7a4 7 = .ok (.istore_n 0, 1) := by decide +kernel
theorem dJ6_numberOfTrailingZeros_0f7a4_8 : decode cJ6_numberOfTrailingZeros_0f7a4 8 = .ok (.iload_n 0, 1) := by decide +kernel
theorem dJ6_numberOfTrailingZeros_0f7a4_9 : decode cJ6_numberOfTrailingZeros_0f7a4 9 = .ok (.ifCond .gt 8, 3) := by decide +kernel
theorem dJ6_numberOfTrailingZeros_0f7a4_12 : decode cJ6_numberOfTrailingZeros_0f7a4 12 = .ok (.iload_n 0, 1) := by decide +kernel
theorem dJ6_numberOfTrailingZeros_0f7a4_13 : decode cJ6_numberOfTrailingZeros_0f7a4 13 = .ok (.bipush 32, 2) := by decide +kernel
theorem dJ6_numberOfTrailingZeros_0f7a4_15 : decode cJ6_numberOfTrailingZeros_0f7a4 15 = .ok (.iand, 1) := by decide +kernel
theorem dJ6_numberOfTrailingZeros_0f7a4_16 : decode cJ6_numberOfTrailingZeros_0f7a4 16 = .ok (.ireturn, 1) := by decide +kernel
theorem dJ6_numberOfTrailingZeros_0f7a4_17 : decode cJ6_numberOfTrailingZeros_0f7a4 17 = .ok (.iconst 1, 1) := by decide +kernel
theorem dJ6_numberOfTrailingZeros_0f7a4_18 : decode cJ6_numberOfTrailingZeros_0f7a4 18 = .ok (.istore_n 1, 1) := by decide +kernel
theorem dJ6_numberOfTrailingZeros_0f7a4_19 : decode cJ6_numberOfTrailingZeros_0f7a4 19 = .ok (.iload_n 0, 1) := by decide +kernel
theorem dJ6_numberOfTrailingZeros_0f7a4_20 : decode cJ6_numberOfTrailingZeros_0f7a4 20 = .ok (.ldc_w 264, 3) := by decide +kernel
theorem dJ6_numberOfTrailingZeros_0f7a4_23 : decode cJ6_numberOfTrailingZeros_0f7a4 23 = .ok (.if_icmp .le 11, 3) := by decide +kernel
theorem dJ6_numberOfTrailingZeros_0f7a4_26 : decode cJ6_numberOfTrailingZeros_0f7a4 26 = .ok (.iinc 1 16, 3) := by decide +kernel
theorem dJ6_numberOfTrailingZeros_0f7a4_29 : decode cJ6_numberOfTrailingZeros_0f7a4 29 = .ok (.iload_n 0, 1) := by decide +kernel
theorem dJ6_numberOfTrailingZeros_0f7a4_30 : decode cJ6_numberOfTrailingZeros_0f7a4 30 = .ok (.bipush 16, 2) := by decide +kernel
theorem dJ6_numberOfTrailingZeros_0f7a4_32 : decode cJ6_numberOfTrailingZeros_0f7a4 32 = .ok (.iushr, 1) := by decide +kernel
theorem dJ6_numberOfTrailingZeros_0f7a4_33 : decode cJ6_numberOfTrailingZeros_0f7a4 33 = .ok (.istore_n 0, 1) := by decide +kernel
theorem dJ6_numberOfTrailingZeros_0f7a4_34 : decode cJ6_numberOfTrailingZeros_0f7a4 34 = .ok (.iload_n 0, 1) := by decide +kernel
theorem dJ6_numberOfTrailingZeros_0f7a4_35 : decode cJ6_numberOfTrailingZeros_0f7a4 35 = .ok (.sipush 256, 3) := by decide +kernel
theorem dJ6_numberOfTrailingZeros_0f7a4_38 : decode cJ6_numberOfTrailingZeros_0f7a4 38 = .ok (.if_icmp .le 11, 3) := by decide +kernel
theorem dJ6_numberOfTrailingZeros_0f7a4_41 : decode cJ6_numberOfTrailingZeros_0f7a4 41 = .ok (.iinc 1 8, 3) := by decide +kernel
theorem dJ6_numberOfTrailingZeros_0f7a4_44 : decode cJ6_numberOfTrailingZeros_0f7a4 44 = .ok (.iload_n 0, 1) := by decide +kernel
theorem dJ6_numberOfTrailingZeros_0f7a4_45 : decode cJ6_numberOfTrailingZeros_0f7a4 45 = .ok (.bipush 8, 2) := by decide +kernel
theorem dJ6_numberOfTrailingZeros_0f7a4_47 : decode cJ6_numberOfTrailingZeros_0f7a4 47 = .ok (.iushr, 1) := by decide +kernel
theorem dJ6_numberOfTrailingZeros_0f7a4_48 : decode cJ6_numberOfTrailingZeros_0f7a4 48 = .ok (.istore_n 0, 1) := by decide +kernel
theorem dJ6_numberOfTrailingZeros_0f7a4_49 : decode cJ6_numberOfTrailingZeros_0f7a4 49 = .ok (.iload_n 0, 1) := by decide +kernel
theorem dJ6_numberOfTrailingZeros_0f7a4_50 : decode cJ6_numberOfTrailingZeros_0f7a4 50 = .ok (.bipush 16, 2) := by decide +kernel
theorem dJ6_numberOfTrailingZeros_0f7a4_52 : decode cJ6_numberOfTrailingZeros_0f7a4 52 = .ok (.if_icmp .le 10, 3) := by decide +kernel
theorem dJ6_numberOfTrailingZeros_0f7a4_55 : decode cJ6_numberOfTrailingZeros_0f7a4 55 = .ok (.iinc 1 4, 3) := by decide +kernel
theorem dJ6_numberOfTrailingZeros_0f7a4_58 : decode cJ6_numberOfTrailingZeros_0f7a4 58 = .ok (.iload_n 0, 1) := by decide +kernel
theorem dJ6_numberOfTrailingZeros_0f7a4_59 : decode cJ6_numberOfTrailingZeros_0f7a4 59 = .ok (.iconst 4, 1) := by decide +kernel
theorem dJ6_numberOfTrailingZeros_0f7a4_60 : decode cJ6_numberOfTrailingZeros_0f7a4 60 = .ok (.iushr, 1) := by decide +kernel
theorem dJ6_numberOfTrailingZeros_0f7a4_61 : decode cJ6_numberOfTrailingZeros_0f7a4 61 = .ok (.istore_n 0, 1) := by decide +kernel
theorem dJ6_numberOfTrailingZeros_0f7a4_62 : decode cJ6_numberOfTrailingZeros_0f7a4 62 = .ok (.iload_n 0, 1) := by decide +kernel
theorem dJ6_numberOfTrailingZeros_0f7a4_63 : decode cJ6_numberOfTrailingZeros_0f7a4 63 = .ok (.iconst 4, 1) := by decide +kernel
theorem dJ6_numberOfTrailingZeros_0f7a4_64 : decode cJ6_numberOfTrailingZeros_0f7a4 64 = .ok (.if_icmp .le 10, 3) := by decide +kernel
theorem dJ6_numberOfTrailingZeros_0f7a4_67 : decode cJ6_numberOfTrailingZeros_0f7a4 67 = .ok (.iinc 1 2, 3) := by decide +kernel
theorem dJ6_numberOfTrailingZeros_0f7a4_70 : decode cJ6_numberOfTrailingZeros_0f7a4 70 = .ok (.iload_n 0, 1) := by decide +kernel
theorem dJ6_numberOfTrailingZeros_0f7a4_71 : decode cJ6_numberOfTrailingZeros_0f7a4 71 = .ok (.iconst 2, 1) := by decide +kernel
theorem dJ6_numberOfTrailingZeros_0f7a4_72 : decode cJ6_numberOfTrailingZeros_0f7a4 72 = .ok (.iushr, 1) := by decide +kernel
theorem dJ6_numberOfTrailingZeros_0f7a4_73 : decode cJ6_numberOfTrailingZeros_0f7a4 73 = .ok (.istore_n 0, 1) := by decide +kernel
theorem dJ6_numberOfTrailingZeros_0f7a4_74 : decode cJ6_numberOfTrailingZeros_0f7a4 74 = .ok (.iload_n 1, 1) := by decide +kernel
theorem dJ6_numberOfTrailingZeros_0f7a4_75 : decode cJ6_numberOfTrailingZeros_0f7a4 75 = .ok (.iload_n 0, 1) := by decide +kernel
theorem dJ6_numberOfTrailingZeros_0f7a4_76 : decode cJ6_numberOfTrailingZeros_0f7a4 76 = .ok (.iconst 1, 1) := by decide +kernel
theorem dJ6_numberOfTrailingZeros_0f7a4_77 : decode cJ6_numberOfTrailingZeros_0f7a4 77 = .ok (.iushr, 1) := by decide +kernel
theorem dJ6_numberOfTrailingZeros_0f7a4_78 : decode cJ6_numberOfTrailingZeros_0f7a4 78 = .ok (.iadd, 1) := by decide +kernel
theorem dJ6_numberOfTrailingZeros_0f7a4_79 : decode cJ6_numberOfTrailingZeros_0f7a4 79 = .ok (.ireturn, 1) := by decide +kernel
theorem dJ6_bitCount_0f7a4_0 : decode cJ6_bitCount_0f7a4 0 = .ok (.iload_n 0, 1) := by decide +kernel
theorem dJ6_bitCount_0f7a4_1 : decode cJ6_bitCount_0f7a4 1 = .ok (.iload_n 0, 1) := by decide +kernel
theorem dJ6_bitCount_0f7a4_2 : decode cJ6_bitCount_0f7a4 2 = .ok (.iconst 1, 1) := by decide +kernel
theorem dJ6_bitCount_0f7a4_3 : decode cJ6_bitCount_0f7a4 3 = .ok (.iushr, 1) := by decide +kernel
theorem dJ6_bitCount_0f7a4_4 : decode cJ6_bitCount_0f7a4 4 = .ok (.ldc_w 265, 3) := by decide +kernel
theorem dJ6_bitCount_0f7a4_7 : decode cJ6_bitCount_0f7a4 7 = .ok (.iand, 1) := by decide +kernel
theorem dJ6_bitCount_0f7a4_8 : decode cJ6_bitCount_0f7a4 8 = .ok (.isub, 1) := by decide +kernel
theorem dJ6_bitCount_0f7a4_9 : decode cJ6_bitCount_0f7a4 9 = .ok (.istore_n 0, 1) := by decide +kernel
theorem dJ6_bitCount_0f7a4_10 : decode cJ6_bitCount_0f7a4 10 = .ok (.iload_n 0, 1) := by decide +kernel
theorem dJ6_bitCount_0f7a4_11 : decode cJ6_bitCount_0f7a4 11 = .ok (.ldc_w 266, 3) := by decide +kernel
theorem dJ6_bitCount_0f7a4_14 : decode cJ6_bitCount_0f7a4 14 = .ok (.iand, 1) := by decide +kernel
theorem dJ6_bitCount_0f7a4_15 : decode cJ6_bitCount_0f7a4 15 = .ok (.iload_n 0, 1) := by decide +kernel
theorem dJ6_bitCount_0f7a4_16 : decode cJ6_bitCount_0f7a4 16 = .ok (.iconst 2, 1) := by decide +kernel
theorem dJ6_bitCount_0f7a4_17 : decode cJ6_bitCount_0f7a4 17 = .ok (.iushr, 1) := by decide +kernel
theorem dJ6_bitCount_0f7a4_18 : decode cJ6_bitCount_0f7a4 18 = .ok (.ldc_w 266, 3) := by decide +kernel
theorem dJ6_bitCount_0f7a4_21 : decode cJ6_bitCount_0f7a4 21 = .ok (.iand, 1) := by decide +kernel
theorem dJ6_bitCount_0f7a4_22 : decode cJ6_bitCount_0f7a4 22 = .ok (.iadd, 1) := by decide +kernel
theorem dJ6_bitCount_0f7a4_23 : decode cJ6_bitCount_0f7a4 23 = .ok (.istore_n 0, 1) := by decide +kernel
theorem dJ6_bitCount_0f7a4_24 : decode cJ6_bitCount_0f7a4 24 = .ok (.iload_n 0, 1) := by decide +kernel
theorem dJ6_bitCount_0f7a4_25 : decode cJ6_bitCount_0f7a4 25 = .ok (.iload_n 0, 1) := by decide +kernel
theorem dJ6_bitCount_0f7a4_26 : decode cJ6_bitCount_0f7a4 26 = .ok (.iconst 4, 1) := by decide +kernel
theorem dJ6_bitCount_0f7a4_27 : decode cJ6_bitCount_0f7a4 27 = .ok (.iushr, 1) := by decide +kernel
theorem dJ6_bitCount_0f7a4_28 : decode cJ6_bitCount_0f7a4 28 = .ok (.iadd, 1) := by decide +kernel
theorem dJ6_bitCount_0f7a4_29 : decode cJ6_bitCount_0f7a4 29 = .ok (.ldc_w 267, 3) := by decide +kernel
theorem dJ6_bitCount_0f7a4_32 : decode cJ6_bitCount_0f7a4 32 = .ok (.iand, 1) := by decide +kernel
theorem dJ6_bitCount_0f7a4_33 : decode cJ6_bitCount_0f7a4 33 = .ok (.istore_n 0, 1) := by decide +kernel
theorem dJ6_bitCount_0f7a4_34 : decode cJ6_bitCount_0f7a4 34 = .ok (.iload_n 0, 1) := by decide +kernel
theorem dJ6_bitCount_0f7a4_35 : decode cJ6_bitCount_0f7a4 35 = .ok (.iload_n 0, 1) := by decide +kernel
theorem dJ6_bitCount_0f7a4_36 : decode cJ6_bitCount_0f7a4 36 = .ok (.bipush 8, 2) := by decide +kernel
theorem dJ6_bitCount_0f7a4_38 : decode cJ6_bitCount_0f7a4 38 = .ok (.iushr, 1) := by decide +kernel
theorem dJ6_bitCount_0f7a4_39 : decode cJ6_bitCount_0f7a4 39 = .ok (.iadd, 1) := by decide +kernel
theorem dJ6_bitCount_0f7a4_40 : decode cJ6_bitCount_0f7a4 40 = .ok (.istore_n 0, 1) := by decide +kernel
theorem dJ6_bitCount_0f7a4_41 : decode cJ6_bitCount_0f7a4 41 = .ok (.iload_n 0, 1) := by decide +kernel
theorem dJ6_bitCount_0f7a4_42 : decode cJ6_bitCount_0f7a4 42 = .ok (.iload_n 0, 1) := by decide +kernel
theorem dJ6_bitCount_0f7a4_43 : decode cJ6_bitCount_0f7a4 43 = .ok (.bipush 16, 2) := by decide +kernel
theorem dJ6_bitCount_0f7a4_45 : decode cJ6_bitCount_0f7a4 45 = .ok (.iushr, 1) := by decide +kernel
theorem dJ6_bitCount_0f7a4_46 : decode cJ6_bitCount_0f7a4 46 = .ok (.iadd, 1) := by decide +kernel
theorem dJ6_bitCount_0f7a4_47 : decode cJ6_bitCount_0f7a4 47 = .ok (.istore_n 0, 1) := by decide +kernel
theorem dJ6_bitCount_0f7a4_48 : decode cJ6_bitCount_0f7a4 48 = .ok (.iload_n 0, 1) := by decide +kernel
theorem dJ6_bitCount_0f7a4_49 : decode cJ6_bitCount_0f7a4 49 = .ok (.bipush 63, 2) := by decide +kernel
theorem dJ6_bitCount_0f7a4_51 : decode cJ6_bitCount_0f7a4 51 = .ok (.iand, 1) := by decide +kernel
theorem dJ6_bitCount_0f7a4_52 : decode cJ6_bitCount_0f7a4 52 = .ok (.ireturn, 1) := by decide +kernel
theorem dJ9_floorMod_7cf53_0 : decode cJ9_floorMod_7cf53 0 = .ok (.iload_n 0, 1) := by decide +kernel
theorem dJ9_floorMod_7cf53_1 : decode cJ9_floorMod_7cf53 1 = .ok (.iload_n 1, 1) := by decide +kernel
theorem dJ9_floorMod_7cf53_2 : decode cJ9_floorMod_7cf53 2 = .ok (.irem, 1) := by decide +kernel
theorem dJ9_floorMod_7cf53_3 : decode cJ9_floorMod_7cf53 3 = .ok (.istore_n 2, 1) := by decide +kernel
theorem dJ9_floorMod_7cf53_4 : decode cJ9_floorMod_7cf53 4 = .ok (.iload_n 0, 1) := by decide +kernel
theorem dJ9_floorMod_7cf53_5 : decode cJ9_floorMod_7cf53 5 = .ok (.iload_n 1, 1) := by decide +kernel
theorem dJ9_floorMod_7cf53_6 : decode cJ9_floorMod_7cf53 6 = .ok (.ixor, 1) := by decide +kernel
theorem dJ9_floorMod_7cf53_7 : decode cJ9_floorMod_7cf53 7 = .ok (.ifCond .ge 11, 3) := by decide +kernel
theorem dJ9_floorMod_7cf53_10 : decode cJ9_floorMod_7cf53 10 = .ok (.iload_n 2, 1) := by decide +kernel
theorem dJ9_floorMod_7cf53_11 : decode cJ9_floorMod_7cf53 11 = .ok (.ifCond .eq 7, 3) := by decide +kernel
theorem dJ9_floorMod_7cf53_14 : decode cJ9_floorMod_7cf53 14 = .ok (.iload_n 2, 1) := by decide +kernel
theorem dJ9_floorMod_7cf53_15 : decode cJ9_floorMod_7cf53 15 = .ok (.iload_n 1, 1) := by decide +kernel
theorem dJ9_floorMod_7cf53_16 : decode cJ9_floorMod_7cf53 16 = .ok (.iadd, 1) := by decide +kernel
theorem dJ9_floorMod_7cf53_17 : decode cJ9_floorMod_7cf53 17 = .ok (.ireturn, 1) := by decide +kernel
theorem dJ9_floorMod_7cf53_18 : decode cJ9_floorMod_7cf53 18 = .ok (.iload_n 2, 1) := by decide +kernel
theorem dJ9_floorMod_7cf53_19 : decode cJ9_floorMod_7cf53 19 = .ok (.ireturn, 1) := by decide +kernel
theorem dJ9_max_7cf53_0 : decode cJ9_max_7cf53 0 = .ok (.iload_n 0, 1) := by decide +kernel
theorem dJ9_max_7cf53_1 : decode cJ9_max_7cf53 1 = .ok (.iload_n 1, 1) := by decide +kernel
theorem dJ9_max_7cf53_2 : decode cJ9_max_7cf53 2 = .ok (.if_icmp .lt 7, 3) := by decide +kernel
theorem dJ9_max_7cf53_5 : decode cJ9_max_7cf53 5 = .ok (.iload_n 0, 1) := by decide +kernel
theorem dJ9_max_7cf53_6 : decode cJ9_max_7cf53 6 = .ok (.goto 4, 3) := by decide +kernel
theorem dJ9_max_7cf53_9 : decode cJ9_max_7cf53 9 = .ok (.iload_n 1, 1) := by decide +kernel
theorem dJ9_max_7cf53_10 : decode cJ9_max_7cf53 10 = .ok (.ireturn, 1) := by decide +kernel
theorem dJ9_min_7cf53_0 : decode cJ9_min_7cf53 0 = .ok (.iload_n 0, 1) := by decide +kernel
theorem dJ9_min_7cf53_1 : decode cJ9_min_7cf53 1 = .ok (.iload_n 1, 1) := by decide +kernel
theorem dJ9_min_7cf53_2 : decode cJ9_min_7cf53 2 = .ok (.if_icmp .gt 7, 3) := by decide +kernel
theorem dJ9_min_7cf53_5 : decode cJ9_min_7cf53 5 = .ok (.iload_n 0, 1) := by decide +kernel
theorem dJ9_min_7cf53_6 : decode cJ9_min_7cf53 6 = .ok (.goto 4, 3) := by decide +kernel
theorem dJ9_min_7cf53_9 : decode cJ9_min_7cf53 9 = .ok (.iload_n 1, 1) := by decide +kernel
theorem dJ9_min_7cf53_10 : decode cJ9_min_7cf53 10 = .ok (.ireturn, 1) := by decide +kernel
theorem dJ7_fill_53178_0 : decode cJ7_fill_53178 0 = .ok (.iconst 0, 1) := by decide +kernel
theorem dJ7_fill_53178_1 : decode cJ7_fill_53178 1 = .ok (.istore_n 2, 1) := by decide +kernel
theorem dJ7_fill_53178_2 : decode cJ7_fill_53178 2 = .ok (.aload_n 0, 1) := by decide +kernel
theorem dJ7_fill_53178_3 : decode cJ7_fill_53178 3 = .ok (.arraylength, 1) := by decide +kernel
theorem dJ7_fill_53178_4 : decode cJ7_fill_53178 4 = .ok (.istore_n 3, 1) := by decide +kernel
theorem dJ7_fill_53178_5 : decode cJ7_fill_53178 5 = .ok (.iload_n 2, 1) := by decide +kernel
theorem dJ7_fill_53178_6 : decode cJ7_fill_53178 6 = .ok (.iload_n 3, 1) := by decide +kernel
theorem dJ7_fill_53178_7 : decode cJ7_fill_53178 7 = .ok (.if_icmp .ge 13, 3) := by decide +kernel
theorem dJ7_fill_53178_10 : decode cJ7_fill_53178 10 = .ok (.aload_n 0, 1) := by decide +kernel
theorem dJ7_fill_53178_11 : decode cJ7_fill_53178 11 = .ok (.iload_n 2, 1) := by decide +kernel
theorem dJ7_fill_53178_12 : decode cJ7_fill_53178 12 = .ok (.iload_n 1, 1) := by decide +kernel
theorem dJ7_fill_53178_13 : decode cJ7_fill_53178 13 = .ok (.iastore, 1) := by decide +kernel
theorem dJ7_fill_53178_14 : decode cJ7_fill_53178 14 = .ok (.iinc 2 1, 3) := by decide +kernel
theorem dJ7_fill_53178_17 : decode cJ7_fill_53178 17 = .ok (.goto (-12), 3) := by decide +kernel
theorem dJ7_fill_53178_20 : decode cJ7_fill_53178 20 = .ok (.return_, 1) := by decide +kernel
end
section
/-! the words of this proof: contracts of methods that only read, of methods that change cells; calls by contract; partial functions -/
section ZB
variable {p : Program} {l : Launch} {e : Env} {R : Room} {s : State} {m : MethodId} {args : Array Value} {below : List Frame} {meth : Method} {c : Code} {H : Heap} {locs : List Loc} {cells slots : Nat} {Q : State → Prop}
abbrev zTy (cI cZ cM cS : ClassId) : List (ClassId × FieldType) := [(cI, .int), (cZ, .boolean), (cM, .object "SplitClasses$Image"), (cS, .object "SplitClasses$State")]
/-- a method that reads the world w and answers r -/
def zCR (l : Launch) (y : MethodName) (wl : List Cond) (rm : Room) (D : va_G) (tys : List (ClassId × FieldType)) (av : List Value) (w : va_W) (r : Int32) : Prop :=
  Met l y wl rm (va_Pc av (fun U => va_P D vwCl w U.heap ∧ va_K D vwCl tys U)) (QcRead r) 0 0 (fun _ => False)
/-- a method that turns the world w into w2 and answers ret; nothing new is made -/
def zCW (l : Launch) (y : MethodName) (wl : List Cond) (rm : Room) (D : va_G) (tys : List (ClassId × FieldType)) (av : List Value) (w w2 : va_W) (ret : Option Value) : Prop :=
  ∀ sz : Nat, Met l y wl rm (va_Pc av (fun U => U.heap.size = sz ∧ va_P D vwCl w U.heap ∧ va_K D vwCl tys U ∧ va_D (fun _ => True) w)) (fun _ st oc t => (oc = .returned ret ∧ va_P D vwCl w2 t.heap ∧ va_D (va_A w sz) w2) ∧ va_F (va_A w sz) st t) 0 0 (va_A w sz)
theorem zCR_of {y : MethodName} {wl ws' : List Cond} {rm : Room} {D : va_G} {tys : List (ClassId × FieldType)} {av : List Value} {w : va_W} {r : Int32} {cc : ByteArray} {maxL : Nat} {rt : FieldType} {own : String}
    (hy : plainName y.cls = true) (hw : wl = Cond.code y cc maxL (some rt) :: ws') (ho : y.cls = own) (hlen : (lg_sl av).length ≤ maxL)
    (body : ∀ (p : Program) (e : Env) (s : State) (m : MethodId) (args : Array Value) (below : List Frame) (meth : Method) (c : Code) (Q : State → Prop) (ls : Array Slot), CallFix p m c cc maxL s args wl own → va_K D vwCl tys s → va_P D vwCl w s.heap →
      (∀ (pc : Nat) (ls' : Array Slot), narrow rt (.int r) = .int r → decode cc pc = .ok (.ireturn, 1) → W p l e rm s m args below meth c s.heap [] 0 0 Q (F0 m pc ls' [.int r])) → lv_has ls maxL (lv_args 0 av) → W p l e rm s m args below meth c s.heap [] 0 0 Q (F0 m 0 ls [])) : zCR l y wl rm D tys av w r := by
  refine Met.ofW (cc := cc) (maxL := maxL) (ret := some rt) hy hw ?_
  intro p e s m args below meth c s₁ B hml hv
  obtain ⟨rfl, hP, hK⟩ := hv
  have hts := atoms_spec (ws := wl) B.pre
  have hown : s.vm.findClass y.cls = some m.cls := findClass_of_methodNamed B.named
  rw [ho] at hown
  have hl := lv_entry av (n := maxL) hlen
  rw [lg_entry_eq]
  exact body p e s m _ below meth c _ _ ⟨B.exec, B.bytes, hml, hown, hts⟩ hK hP (fun pc ls' hn hdg => W.zret B.exec B.bytes B.returns hn (fun t ht hW => ⟨rfl, ht⟩) (fun q hq => by cases hq) hdg B.notSynchronized) hl
theorem zCW_ofv {y : MethodName} {wl ws' : List Cond} {rm : Room} {D : va_G} {tys : List (ClassId × FieldType)} {av : List Value} {w w2 : va_W} {cc : ByteArray} {maxL : Nat} {own : String}
    (hy : plainName y.cls = true) (hw : wl = Cond.code y cc maxL none :: ws') (ho : y.cls = own) (hlen : (lg_sl av).length ≤ maxL)
    (body : ∀ (p : Program) (e : Env) (s : State) (m : MethodId) (args : Array Value) (below : List Frame) (meth : Method) (c : Code) (Q : State → Prop) (ls : Array Slot) (A : Nat → Prop), CallFix p m c cc maxL s args wl own → (∀ q : Nat, s.heap.size ≤ q → A q) → va_K D vwCl tys s → va_P D vwCl w s.heap → va_D A w →
      (∀ (H : Heap) (locs : List Loc) (pc : Nat) (ls' : Array Slot), decode cc pc = .ok (.return_, 1) → va_P D vwCl w2 H → va_D A w2 → va_S A s.heap H locs → W p l e rm s m args below meth c H locs 0 0 Q (F0 m pc ls' [])) → va_S A s.heap s.heap [] → lv_has ls maxL (lv_args 0 av) → W p l e rm s m args below meth c s.heap [] 0 0 Q (F0 m 0 ls [])) : zCW l y wl rm D tys av w w2 none := by
  intro sz
  refine Met.ofW (cc := cc) (maxL := maxL) (ret := none) hy hw ?_
  intro p e s m args below meth c s₁ B hml hv
  obtain ⟨rfl, hsz, hP, hK, hD0⟩ := hv
  have hts := atoms_spec (ws := wl) B.pre
  have hown : s.vm.findClass y.cls = some m.cls := findClass_of_methodNamed B.named
  rw [ho] at hown
  have hl := lv_entry av (n := maxL) hlen
  rw [lg_entry_eq]
  subst hsz
  exact body p e s m _ below meth c _ _ (va_A w s.heap.size) ⟨B.exec, B.bytes, hml, hown, hts⟩ (fun q h => Or.inr h) hK hP (hD0.self (sz := s.heap.size)) (fun H locs pc ls' hdg hP' hD' hS' => W.vret B.exec B.bytes B.returns (fun t ht hW => ⟨⟨rfl, by rw [ht]; exact hP', hD'⟩, hS'.F ht⟩) hS'.2.2 hdg B.notSynchronized) va_S.rf hl
theorem zCW_ofi {y : MethodName} {wl ws' : List Cond} {rm : Room} {D : va_G} {tys : List (ClassId × FieldType)} {av : List Value} {w w2 : va_W} {r : Int32} {cc : ByteArray} {maxL : Nat} {rt : FieldType} {own : String}
    (hy : plainName y.cls = true) (hw : wl = Cond.code y cc maxL (some rt) :: ws') (ho : y.cls = own) (hlen : (lg_sl av).length ≤ maxL)
    (body : ∀ (p : Program) (e : Env) (s : State) (m : MethodId) (args : Array Value) (below : List Frame) (meth : Method) (c : Code) (Q : State → Prop) (ls : Array Slot) (A : Nat → Prop), CallFix p m c cc maxL s args wl own → (∀ q : Nat, s.heap.size ≤ q → A q) → va_K D vwCl tys s → va_P D vwCl w s.heap → va_D A w →
      (∀ (H : Heap) (locs : List Loc) (pc : Nat) (ls' : Array Slot), narrow rt (.int r) = .int r → decode cc pc = .ok (.ireturn, 1) → va_P D vwCl w2 H → va_D A w2 → va_S A s.heap H locs → W p l e rm s m args below meth c H locs 0 0 Q (F0 m pc ls' [.int r])) → va_S A s.heap s.heap [] → lv_has ls maxL (lv_args 0 av) → W p l e rm s m args below meth c s.heap [] 0 0 Q (F0 m 0 ls [])) : zCW l y wl rm D tys av w w2 (some (.int r)) := by
  intro sz
  refine Met.ofW (cc := cc) (maxL := maxL) (ret := some rt) hy hw ?_
  intro p e s m args below meth c s₁ B hml hv
  obtain ⟨rfl, hsz, hP, hK, hD0⟩ := hv
  have hts := atoms_spec (ws := wl) B.pre
  have hown : s.vm.findClass y.cls = some m.cls := findClass_of_methodNamed B.named
  rw [ho] at hown
  have hl := lv_entry av (n := maxL) hlen
  rw [lg_entry_eq]
  subst hsz
  exact body p e s m _ below meth c _ _ (va_A w s.heap.size) ⟨B.exec, B.bytes, hml, hown, hts⟩ (fun q h => Or.inr h) hK hP (hD0.self (sz := s.heap.size)) (fun H locs pc ls' hn hdg hP' hD' hS' => W.zret B.exec B.bytes B.returns hn (fun t ht hW => ⟨⟨rfl, by rw [ht]; exact hP', hD'⟩, hS'.F ht⟩) hS'.2.2 hdg B.notSynchronized) va_S.rf hl
theorem zfm {α β : Type} {f : α → Option β} {a : List α} {w : List β} (h : a.map f = w.map some) : a.filterMap f = w := by
  induction a generalizing w with
  | nil => cases w with
    | nil => rfl
    | cons b w => simp at h
  | cons x a ih => cases w with
    | nil => simp at h
    | cons b w =>
      simp only [List.map_cons, List.cons.injEq] at h
      rw [List.filterMap_cons, h.1]
      simp [ih h.2]
variable {pc : Nat} {ls : Array Slot} {rest st0 : List Value} {A : Nat → Prop} {D : va_G} {tys : List (ClassId × FieldType)} {ws wc wr w1 w2 : va_W} {ret : Option Value}
/-- behind a call that changes cells: the caller's world again, in its own order -/
theorem zcall (hr : va_Run p l e R s m args below meth c H locs cells slots 0 0 (F0 m pc ls st0) rest (fun st oc t => (oc = .returned ret ∧ va_P D vwCl w1 t.heap ∧ va_D (va_A wc H.size) w1) ∧ va_F (va_A wc H.size) st t) (va_A wc H.size))
    (hP : va_P D vwCl ws H) (hD : va_D A ws) (hS : va_S A s.heap H locs) (hA : ∀ q : Nat, s.heap.size ≤ q → A q) (isC isR is : List Nat) (hC : isC.map (fun i => ws[i]?) = wc.map some) (hR : isR.map (fun i => ws[i]?) = wr.map some) (hn : va_nd isR = true) (hdis : ∀ i ∈ isR, i ∉ isC)
    (hi : is.map (fun i => (wr ++ w1)[i]?) = w2.map some) (hni : va_nd is = true)
    (kk : ∀ (H1 : Heap) (locs1 : List Loc), va_P D vwCl w2 H1 → va_D A w2 → va_S A s.heap H1 locs1 → W p l e R s m args below meth c H1 locs1 cells slots Q (F0 m (pc + 3) ls (ret.toList ++ rest))) : W p l e R s m args below meth c H locs cells slots Q (F0 m pc ls st0) := by
  intro T hT X
  obtain ⟨v, st₀, t, T', L, h0, X', hL, e1, e2, ⟨⟨hv, hP1, hD1⟩, hz, hk⟩, st⟩ := hr T hT X
  cases hv
  rw [h0] at hz hk
  have hFc := va_free (wc := wc) hD hS hA isC hC
  obtain ⟨hP2, hD2⟩ := va_join (wr := wr) (w1 := w1) hP hD isC isR hC hR hn hdis hk hFc hP1 hD1
  obtain ⟨t2, a1, b1⟩ := kk T'.heap (locs ++ L) (by rw [e1]; exact hP2.sub is (zfm hi)) (hD2.sub is hni hi)
    ⟨Nat.le_trans hS.1 (by rw [e1]; exact hz), fun q h1 h2 => by rw [e1, hk q (Nat.lt_of_lt_of_le h1 hS.1) (fun z => h2 (hFc q z))]; exact hS.2.1 q h1 h2, fun q hq => by
      rcases List.mem_append.mp hq with h | h
      · exact hS.2.2 q h
      · exact hFc _ (hL q h)⟩ T' rfl X'
  exact ⟨t2, st t2 a1, b1⟩
variable {y : MethodName} {bytes cc : ByteArray} {maxL nL index : Nat} {rt : Option FieldType} {wl wl' : List Cond} {rm : Room} {Ts : List Cond} {own C : String} {b : Nat} {As : List Value}
theorem zblind {sz : Nat} {av : List Value} {w : va_W} : FrameBlind (va_Pc av (fun U => U.heap.size = sz ∧ va_P D vwCl w U.heap ∧ va_K D vwCl tys U ∧ va_D (fun _ => True) w)) := fun a U g mk q => by
  obtain ⟨q0, q1, qP, qK, qD⟩ := q
  exact ⟨q0, q1, qP, va_K.moved (u := U) (U := U.calling g mk a) (Vm.Alike.refl U.vm) qK, qD⟩
theorem zblindR {av : List Value} {w : va_W} : FrameBlind (va_Pc av (fun U => va_P D vwCl w U.heap ∧ va_K D vwCl tys U)) := fun a U g mk q => by
  obtain ⟨q0, qP, qK⟩ := q
  exact ⟨q0, qP, va_K.moved (u := U) (U := U.calling g mk a) (Vm.Alike.refl U.vm) qK⟩
/-- invokevirtual of a method that changes cells -/
theorem zV (E : CallFix p m c cc nL s args Ts own) (hC0 : zCW l y wl rm D tys (.ref b :: As) wc w1 ret) (n : Nat) (hG : GoodIn Ts (wsV own index C y wl)) (hw : wl = Cond.code y bytes maxL rt :: wl') (hrc : rm.cells = 0) (hrs : rm.slots = 0)
    (hd : y.cls = C ∧ y.cls ≠ "java/lang/invoke/MethodHandle" ∧ y.cls ≠ "java/lang/invoke/VarHandle" ∧ (parseMethodDescriptor y.desc).map (fun d => d.parameters.length) = some n) (hR0 : rm.frames + 1 ≤ R.frames ∧ 8 + (maxL + 11) + rm.locals ≤ R.locals)
    (hK : va_K D vwCl tys s) (hP : va_P D vwCl ws H) (hD : va_D A ws) (hS : va_S A s.heap H locs) (hA : ∀ q : Nat, s.heap.size ≤ q → A q) (isC isR is : List Nat) (hnc : va_nd isC = true) (hC : isC.map (fun i => ws[i]?) = wc.map some) (hR : isR.map (fun i => ws[i]?) = wr.map some) (hn : va_nd isR = true) (hdis : ∀ i ∈ isR, i ∉ isC)
    (hi : is.map (fun i => (wr ++ w1)[i]?) = w2.map some) (hni : va_nd is = true) (q0 ci : Nat) {fs : List Value} {q : vw_C} (hc : vwCl[ci]? = some q) (hq : q.1 = C) (he : wc[q0]? = some (b, .inr (ci, fs)))
    (hn0 : As.length = n) (hsz : ls.size = nL) (hst : st0 = As.reverse ++ .ref b :: rest) (hrm : (rest.map fun v => v.category).sum ≤ 8) (hdg : decode cc pc = .ok (.invokevirtual index, 3)) (hf : cells + 0 ≤ R.cells ∧ slots + 0 ≤ R.slots)
    (kk : ∀ (H1 : Heap) (locs1 : List Loc), va_P D vwCl w2 H1 → va_D A w2 → va_S A s.heap H1 locs1 → W p l e R s m args below meth c H1 locs1 cells slots Q (F0 m (pc + 3) ls (ret.toList ++ rest))) : W p l e R s m args below meth c H locs cells slots Q (F0 m pc ls st0) := by
  have hPc := hP.sub isC (zfm hC)
  have hDc := hD.sub isC hnc hC
  exact zcall (va_runV E (hC0 H.size) (cwV n E.2.2.2.2 hG hw hrc hrs hd hR0) ⟨zblind, by rw [← hq]; exact va_recv hK hPc hc he, fun U hU hW => ⟨rfl, by rw [hU], by rw [hU]; exact hPc, va_K.moved hW.alike hK, hDc.weaken (fun _ _ _ _ => trivial)⟩⟩ rfl hn0 hsz hst (lv_room hrm) hdg hf) hP hD hS hA isC isR is hC hR hn hdis hi hni kk
/-- invokestatic of a method that changes cells -/
theorem zS (E : CallFix p m c cc nL s args Ts own) (hC0 : zCW l y wl rm D tys As wc w1 ret) (n : Nat) (hG : GoodIn Ts (va_wsS own index y wl)) (hw : wl = Cond.code y bytes maxL rt :: wl') (hrc : rm.cells = 0) (hrs : rm.slots = 0)
    (hd : y.cls ≠ "java/lang/invoke/MethodHandle" ∧ y.cls ≠ "java/lang/invoke/VarHandle" ∧ (parseMethodDescriptor y.desc).map (fun d => d.parameters.length) = some n) (hR0 : rm.frames + 1 ≤ R.frames ∧ 8 + (maxL + 11) + rm.locals ≤ R.locals)
    (hK : va_K D vwCl tys s) (hP : va_P D vwCl ws H) (hD : va_D A ws) (hS : va_S A s.heap H locs) (hA : ∀ q : Nat, s.heap.size ≤ q → A q) (isC isR is : List Nat) (hnc : va_nd isC = true) (hC : isC.map (fun i => ws[i]?) = wc.map some) (hR : isR.map (fun i => ws[i]?) = wr.map some) (hn : va_nd isR = true) (hdis : ∀ i ∈ isR, i ∉ isC)
    (hi : is.map (fun i => (wr ++ w1)[i]?) = w2.map some) (hni : va_nd is = true)
    (hn0 : As.length = n) (hsz : ls.size = nL) (hst : st0 = As.reverse ++ rest) (hrm : (rest.map fun v => v.category).sum ≤ 8) (hdg : decode cc pc = .ok (.invokestatic index, 3)) (hf : cells + 0 ≤ R.cells ∧ slots + 0 ≤ R.slots)
    (kk : ∀ (H1 : Heap) (locs1 : List Loc), va_P D vwCl w2 H1 → va_D A w2 → va_S A s.heap H1 locs1 → W p l e R s m args below meth c H1 locs1 cells slots Q (F0 m (pc + 3) ls (ret.toList ++ rest))) : W p l e R s m args below meth c H locs cells slots Q (F0 m pc ls st0) := by
  have hPc := hP.sub isC (zfm hC)
  have hDc := hD.sub isC hnc hC
  exact zcall (va_runS E (hC0 H.size) (va_cwS n E.2.2.2.2 hG hw hrc hrs hd hR0) ⟨zblind, fun U hU hW => ⟨rfl, by rw [hU], by rw [hU]; exact hPc, va_K.moved hW.alike hK, hDc.weaken (fun _ _ _ _ => trivial)⟩⟩ rfl hn0 hsz hst (lv_room hrm) hdg hf) hP hD hS hA isC isR is hC hR hn hdis hi hni kk
/-- invokevirtual of a method that only reads -/
theorem zVr {r : Int32} (E : CallFix p m c cc nL s args Ts own) (hC0 : zCR l y wl rm D tys (.ref b :: As) wc r) (n : Nat) (hG : GoodIn Ts (wsV own index C y wl)) (hw : wl = Cond.code y bytes maxL rt :: wl') (hrc : rm.cells = 0) (hrs : rm.slots = 0)
    (hd : y.cls = C ∧ y.cls ≠ "java/lang/invoke/MethodHandle" ∧ y.cls ≠ "java/lang/invoke/VarHandle" ∧ (parseMethodDescriptor y.desc).map (fun d => d.parameters.length) = some n) (hR0 : rm.frames + 1 ≤ R.frames ∧ 8 + (maxL + 11) + rm.locals ≤ R.locals)
    (hK : va_K D vwCl tys s) (hP : va_P D vwCl ws H) (isC : List Nat) (hC : isC.map (fun i => ws[i]?) = wc.map some) (q0 ci : Nat) {fs : List Value} {q : vw_C} (hc : vwCl[ci]? = some q) (hq : q.1 = C) (he : wc[q0]? = some (b, .inr (ci, fs)))
    (hn0 : As.length = n) (hsz : ls.size = nL) (hst : st0 = As.reverse ++ .ref b :: rest) (hrm : (rest.map fun v => v.category).sum ≤ 8) (hdg : decode cc pc = .ok (.invokevirtual index, 3)) (hf : cells + 0 ≤ R.cells ∧ slots + 0 ≤ R.slots)
    (kk : W p l e R s m args below meth c H locs cells slots Q (F0 m (pc + 3) ls (.int r :: rest))) : W p l e R s m args below meth c H locs cells slots Q (F0 m pc ls st0) := by
  have hPc := hP.sub isC (zfm hC)
  exact W.callR (W.runV E hC0 (cwV n E.2.2.2.2 hG hw hrc hrs hd hR0) ⟨zblindR, by rw [← hq]; exact va_recv hK hPc hc he, fun U hU hW => ⟨rfl, by rw [hU]; exact hPc, va_K.moved hW.alike hK⟩⟩ rfl hn0 hsz hst (lv_room hrm) hdg hf) kk
/-- invokestatic of a method that only reads -/
theorem zSr {r : Int32} (E : CallFix p m c cc nL s args Ts own) (hC0 : zCR l y wl rm D tys As wc r) (n : Nat) (hG : GoodIn Ts (va_wsS own index y wl)) (hw : wl = Cond.code y bytes maxL rt :: wl') (hrc : rm.cells = 0) (hrs : rm.slots = 0)
    (hd : y.cls ≠ "java/lang/invoke/MethodHandle" ∧ y.cls ≠ "java/lang/invoke/VarHandle" ∧ (parseMethodDescriptor y.desc).map (fun d => d.parameters.length) = some n) (hR0 : rm.frames + 1 ≤ R.frames ∧ 8 + (maxL + 11) + rm.locals ≤ R.locals)
    (hK : va_K D vwCl tys s) (hP : va_P D vwCl ws H) (isC : List Nat) (hC : isC.map (fun i => ws[i]?) = wc.map some)
    (hn0 : As.length = n) (hsz : ls.size = nL) (hst : st0 = As.reverse ++ rest) (hrm : (rest.map fun v => v.category).sum ≤ 8) (hdg : decode cc pc = .ok (.invokestatic index, 3)) (hf : cells + 0 ≤ R.cells ∧ slots + 0 ≤ R.slots)
    (kk : W p l e R s m args below meth c H locs cells slots Q (F0 m (pc + 3) ls (.int r :: rest))) : W p l e R s m args below meth c H locs cells slots Q (F0 m pc ls st0) := by
  have hPc := hP.sub isC (zfm hC)
  exact W.callR (W.runS E hC0 (va_cwS n E.2.2.2.2 hG hw hrc hrs hd hR0) ⟨zblindR, fun U hU hW => ⟨rfl, by rw [hU]; exact hPc, va_K.moved hW.alike hK⟩⟩ rfl hn0 hsz hst (lv_room hrm) hdg hf) kk
end ZB
/-! partial functions: what a method answers, if no index leaves its row and no loop runs out of its fuel -/
section ZO
variable {α β γ δ ε ζ η θ ρ σ : Type}
def ob1 (a : Option α) (b : α → Option ρ) : Option ρ := match a with
  | none => none
  | some x => b x
def ob2 (a : Option (α × β)) (b : α → β → Option ρ) : Option ρ := match a with
  | none => none
  | some x => b x.1 x.2
def ob3 (a : Option (α × β × γ)) (b : α → β → γ → Option ρ) : Option ρ := match a with
  | none => none
  | some x => b x.1 x.2.1 x.2.2
def ob4 (a : Option (α × β × γ × δ)) (b : α → β → γ → δ → Option ρ) : Option ρ := match a with
  | none => none
  | some x => b x.1 x.2.1 x.2.2.1 x.2.2.2
def ob5 (a : Option (α × β × γ × δ × ε)) (b : α → β → γ → δ → ε → Option ρ) : Option ρ := match a with
  | none => none
  | some x => b x.1 x.2.1 x.2.2.1 x.2.2.2.1 x.2.2.2.2
def ob6 (a : Option (α × β × γ × δ × ε × ζ)) (b : α → β → γ → δ → ε → ζ → Option ρ) : Option ρ := match a with
  | none => none
  | some x => b x.1 x.2.1 x.2.2.1 x.2.2.2.1 x.2.2.2.2.1 x.2.2.2.2.2
def ob7 (a : Option (α × β × γ × δ × ε × ζ × η)) (b : α → β → γ → δ → ε → ζ → η → Option ρ) : Option ρ := match a with
  | none => none
  | some x => b x.1 x.2.1 x.2.2.1 x.2.2.2.1 x.2.2.2.2.1 x.2.2.2.2.2.1 x.2.2.2.2.2.2
def ob8 (a : Option (α × β × γ × δ × ε × ζ × η × θ)) (b : α → β → γ → δ → ε → ζ → η → θ → Option ρ) : Option ρ := match a with
  | none => none
  | some x => b x.1 x.2.1 x.2.2.1 x.2.2.2.1 x.2.2.2.2.1 x.2.2.2.2.2.1 x.2.2.2.2.2.2.1 x.2.2.2.2.2.2.2
theorem ob1_e {a : Option α} {b : α → Option ρ} {r : ρ} (h : ob1 a b = some r) : ∃ x, a = some x ∧ b x = some r := by
  cases a with
  | none => cases h
  | some x => exact ⟨_, rfl, h⟩
theorem ob2_e {a : Option (α × β)} {b : α → β → Option ρ} {r : ρ} (h : ob2 a b = some r) : ∃ x y, a = some (x, y) ∧ b x y = some r := by
  cases a with
  | none => cases h
  | some x => exact ⟨_, _, rfl, h⟩
theorem ob3_e {a : Option (α × β × γ)} {b : α → β → γ → Option ρ} {r : ρ} (h : ob3 a b = some r) : ∃ x y z, a = some (x, y, z) ∧ b x y z = some r := by
  cases a with
  | none => cases h
  | some x => exact ⟨_, _, _, rfl, h⟩
theorem ob4_e {a : Option (α × β × γ × δ)} {b : α → β → γ → δ → Option ρ} {r : ρ} (h : ob4 a b = some r) : ∃ x y z u, a = some (x, y, z, u) ∧ b x y z u = some r := by
  cases a with
  | none => cases h
  | some x => exact ⟨_, _, _, _, rfl, h⟩
theorem ob5_e {a : Option (α × β × γ × δ × ε)} {b : α → β → γ → δ → ε → Option ρ} {r : ρ} (h : ob5 a b = some r) : ∃ x y z u v, a = some (x, y, z, u, v) ∧ b x y z u v = some r := by
  cases a with
  | none => cases h
  | some x => exact ⟨_, _, _, _, _, rfl, h⟩
theorem ob6_e {a : Option (α × β × γ × δ × ε × ζ)} {b : α → β → γ → δ → ε → ζ → Option ρ} {r : ρ} (h : ob6 a b = some r) : ∃ x y z u v w, a = some (x, y, z, u, v, w) ∧ b x y z u v w = some r := by
  cases a with
  | none => cases h
  | some x => exact ⟨_, _, _, _, _, _, rfl, h⟩
theorem ob7_e {a : Option (α × β × γ × δ × ε × ζ × η)} {b : α → β → γ → δ → ε → ζ → η → Option ρ} {r : ρ} (h : ob7 a b = some r) : ∃ x y z u v w t, a = some (x, y, z, u, v, w, t) ∧ b x y z u v w t = some r := by
  cases a with
  | none => cases h
  | some x => exact ⟨_, _, _, _, _, _, _, rfl, h⟩
theorem ob8_e {a : Option (α × β × γ × δ × ε × ζ × η × θ)} {b : α → β → γ → δ → ε → ζ → η → θ → Option ρ} {r : ρ} (h : ob8 a b = some r) : ∃ x y z u v w t q, a = some (x, y, z, u, v, w, t, q) ∧ b x y z u v w t q = some r := by
  cases a with
  | none => cases h
  | some x => exact ⟨_, _, _, _, _, _, _, _, rfl, h⟩
/-- an index is within its row -/
def ogd (i : Int32) (n : Nat) (k : Option ρ) : Option ρ := if i < 0 ∨ n ≤ i.toNatClampNeg then none else k
theorem ogd_e {i : Int32} {n : Nat} {k : Option ρ} {r : ρ} (h : ogd i n k = some r) : vp_in i n ∧ k = some r := by
  unfold ogd at h
  split at h
  · cases h
  · exact ⟨‹_›, h⟩
/-- a divisor isn't 0 -/
def onz (y : Int32) (k : Option ρ) : Option ρ := if y = 0 then none else k
theorem onz_e {y : Int32} {k : Option ρ} {r : ρ} (h : onz y k = some r) : (¬ y = 0) ∧ k = some r := by
  unfold onz at h
  split at h
  · cases h
  · exact ⟨‹_›, h⟩
/-- a number is a truth value -/
def obl (y : Int32) (k : Option ρ) : Option ρ := if y = 0 ∨ y = 1 then k else none
theorem obl_e {y : Int32} {k : Option ρ} {r : ρ} (h : obl y k = some r) : narrow .boolean (.int y) = .int y ∧ k = some r := by
  unfold obl at h
  split at h
  · rename_i hy
    rcases hy with rfl | rfl
    · exact ⟨narrow_b0, h⟩
    · exact ⟨narrow_b1, h⟩
  · cases h
theorem oif_t {c : Prop} [Decidable c] {a b : Option ρ} {r : ρ} (h : (if c then a else b) = some r) (hc : c) : a = some r := by rw [if_pos hc] at h; exact h
theorem oif_f {c : Prop} [Decidable c] {a b : Option ρ} {r : ρ} (h : (if c then a else b) = some r) (hc : ¬ c) : b = some r := by rw [if_neg hc] at h; exact h
/-- a loop: a step gives the next state, or the end -/
def olp (f : σ → Option (σ ⊕ ρ)) : Nat → σ → Option ρ
  | 0, _ => none
  | n + 1, s => match f s with
    | none => none
    | some (.inl t) => olp f n t
    | some (.inr r) => some r
def oFu : Nat := 10000
theorem olp_e {f : σ → Option (σ ⊕ ρ)} {n : Nat} {s : σ} {r : ρ} (h : olp f (n + 1) s = some r) : ∃ z, f s = some z ∧ ((∃ t, z = .inl t ∧ olp f n t = some r) ∨ z = .inr r) := by
  unfold olp at h
  cases hz : f s with
  | none => rw [hz] at h; cases h
  | some z =>
    rw [hz] at h
    cases z with
    | inl t => exact ⟨_, rfl, Or.inl ⟨t, rfl, h⟩⟩
    | inr q => exact ⟨_, rfl, Or.inr (congrArg Sum.inr (Option.some.inj h))⟩
theorem olp_0 {f : σ → Option (σ ⊕ ρ)} {s : σ} {r : ρ} {G : Prop} (h : olp f 0 s = some r) : G := by
  unfold olp at h
  cases h
theorem olp_l {f : σ → Option (σ ⊕ ρ)} {n : Nat} {t0 : σ} {r : ρ} {z : σ ⊕ ρ} (hz : some (Sum.inl t0) = some z) (h : (∃ t, z = .inl t ∧ olp f n t = some r) ∨ z = .inr r) : olp f n t0 = some r := by
  cases hz
  rcases h with ⟨t, h1, h2⟩ | h
  · cases h1; exact h2
  · cases h
theorem olp_r {f : σ → Option (σ ⊕ ρ)} {n : Nat} {r0 r : ρ} {z : σ ⊕ ρ} (hz : some (Sum.inr r0) = some z) (h : (∃ t, z = .inl t ∧ olp f n t = some r) ∨ z = .inr r) : r0 = r := by
  cases hz
  rcases h with ⟨t, h1, h2⟩ | h
  · cases h1
  · cases h; rfl
theorem osm {a b : α} (h : some a = some b) : a = b := Option.some.inj h
/-- a loop over numbers, by an invariant: from i on, up to e -/
theorem olp_for {f : σ → Option (σ ⊕ ρ)} {r : ρ} (I : Nat → σ → Prop) (k : Nat) (hs : ∀ i s, i < k → I i s → ∃ t, f s = some (.inl t) ∧ I (i + 1) t) (hx : ∀ s, I k s → f s = some (.inr r)) : ∀ (n i : Nat) (s : σ), i ≤ k → k - i < n → I i s → olp f n s = some r := by
  intro n
  induction n with
  | zero => intro i s h1 h2; omega
  | succ n ih =>
    intro i s h1 h2 h3
    unfold olp
    by_cases hik : i < k
    · obtain ⟨t, e, h4⟩ := hs i s hik h3
      rw [e]
      exact ih (i + 1) t hik (by omega) h4
    · have : i = k := by omega
      subst this
      rw [hx s h3]
end ZO
end
