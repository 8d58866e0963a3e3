section
-- ===== PART A: goes FIRST, ahead of the names: the tables' words, and 'selects' of the private methods out of them =====
/-- a private method of a class that the tables say can be made, by its rows of tables_1 -/
def lw_okq (q : MethodName × Nat) : Prop := (q.1.cls ≠ "java/lang/invoke/MethodHandle" ∧ q.1.cls ≠ "java/lang/invoke/VarHandle") ∧ Cond.instantiable q.1.cls q.2 ∈ tables_1 ∧ Cond.privateMethod q.1 ∈ tables_1 ∧ Cond.instanceMethod q.1 ∈ tables_1
theorem lw_p0 : lw_okq (⟨"GlassPlanner$Panes", "fragment", "(JJ)J"⟩, 7) := ⟨⟨by decide +kernel, by decide +kernel⟩, List.mem_of_getElem? (i := 104) (by decide +kernel), List.mem_of_getElem? (i := 230) (by decide +kernel), List.mem_of_getElem? (i := 231) (by decide +kernel)⟩
theorem lw_p1 : lw_okq (⟨"GlassPlanner$Panes", "touching", "(I)J"⟩, 7) := ⟨⟨by decide +kernel, by decide +kernel⟩, List.mem_of_getElem? (i := 104) (by decide +kernel), List.mem_of_getElem? (i := 235) (by decide +kernel), List.mem_of_getElem? (i := 236) (by decide +kernel)⟩
theorem lw_p2 : lw_okq (⟨"GlassPlanner", "refresh", "()V"⟩, 6) := ⟨⟨by decide +kernel, by decide +kernel⟩, List.mem_of_getElem? (i := 14) (by decide +kernel), List.mem_of_getElem? (i := 303) (by decide +kernel), List.mem_of_getElem? (i := 304) (by decide +kernel)⟩
theorem lw_p3 : lw_okq (⟨"GlassPlanner", "flipCut", "(III)I"⟩, 6) := ⟨⟨by decide +kernel, by decide +kernel⟩, List.mem_of_getElem? (i := 14) (by decide +kernel), List.mem_of_getElem? (i := 335) (by decide +kernel), List.mem_of_getElem? (i := 336) (by decide +kernel)⟩
theorem lw_p4 : lw_okq (⟨"GlassPlanner$Splitter", "frame", "()V"⟩, 9) := ⟨⟨by decide +kernel, by decide +kernel⟩, List.mem_of_getElem? (i := 142) (by decide +kernel), List.mem_of_getElem? (i := 470) (by decide +kernel), List.mem_of_getElem? (i := 471) (by decide +kernel)⟩
theorem lw_p5 : lw_okq (⟨"GlassPlanner$Splitter", "planPart", "(IIII)V"⟩, 9) := ⟨⟨by decide +kernel, by decide +kernel⟩, List.mem_of_getElem? (i := 142) (by decide +kernel), List.mem_of_getElem? (i := 483) (by decide +kernel), List.mem_of_getElem? (i := 484) (by decide +kernel)⟩
theorem lw_p6 : lw_okq (⟨"GlassPlanner$Splitter", "crossedBelow", "(JI)J"⟩, 9) := ⟨⟨by decide +kernel, by decide +kernel⟩, List.mem_of_getElem? (i := 142) (by decide +kernel), List.mem_of_getElem? (i := 500) (by decide +kernel), List.mem_of_getElem? (i := 501) (by decide +kernel)⟩
theorem lw_p7 : lw_okq (⟨"GlassPlanner$Splitter", "offer", "(III)V"⟩, 9) := ⟨⟨by decide +kernel, by decide +kernel⟩, List.mem_of_getElem? (i := 142) (by decide +kernel), List.mem_of_getElem? (i := 505) (by decide +kernel), List.mem_of_getElem? (i := 506) (by decide +kernel)⟩
theorem lw_p8 : lw_okq (⟨"GlassPlanner$Splitter", "crossedRight", "(JI)J"⟩, 9) := ⟨⟨by decide +kernel, by decide +kernel⟩, List.mem_of_getElem? (i := 142) (by decide +kernel), List.mem_of_getElem? (i := 509) (by decide +kernel), List.mem_of_getElem? (i := 510) (by decide +kernel)⟩
theorem lw_p9 : lw_okq (⟨"GlassPlanner$Splitter", "cutPart", "(LGlassPlanner$Drawing;IIIII)V"⟩, 9) := ⟨⟨by decide +kernel, by decide +kernel⟩, List.mem_of_getElem? (i := 142) (by decide +kernel), List.mem_of_getElem? (i := 533) (by decide +kernel), List.mem_of_getElem? (i := 534) (by decide +kernel)⟩
theorem lw_p10 : lw_okq (⟨"GlassPlanner$Panes", "colourOf", "(I)I"⟩, 7) := ⟨⟨by decide +kernel, by decide +kernel⟩, List.mem_of_getElem? (i := 104) (by decide +kernel), List.mem_of_getElem? (i := 545) (by decide +kernel), List.mem_of_getElem? (i := 546) (by decide +kernel)⟩
theorem lw_p11 : lw_okq (⟨"GlassPlanner$Colouring", "arrangeByNumber", "()V"⟩, 3) := ⟨⟨by decide +kernel, by decide +kernel⟩, List.mem_of_getElem? (i := 176) (by decide +kernel), List.mem_of_getElem? (i := 564) (by decide +kernel), List.mem_of_getElem? (i := 565) (by decide +kernel)⟩
theorem lw_p12 : lw_okq (⟨"GlassPlanner$Colouring", "arrangeByNeighbours", "()V"⟩, 3) := ⟨⟨by decide +kernel, by decide +kernel⟩, List.mem_of_getElem? (i := 176) (by decide +kernel), List.mem_of_getElem? (i := 568) (by decide +kernel), List.mem_of_getElem? (i := 569) (by decide +kernel)⟩
theorem lw_p13 : lw_okq (⟨"GlassPlanner$Colouring", "mostNeighbours", "(J)I"⟩, 3) := ⟨⟨by decide +kernel, by decide +kernel⟩, List.mem_of_getElem? (i := 176) (by decide +kernel), List.mem_of_getElem? (i := 576) (by decide +kernel), List.mem_of_getElem? (i := 577) (by decide +kernel)⟩
theorem lw_p14 : lw_okq (⟨"GlassPlanner$Colouring", "arrangeByRemoval", "()V"⟩, 3) := ⟨⟨by decide +kernel, by decide +kernel⟩, List.mem_of_getElem? (i := 176) (by decide +kernel), List.mem_of_getElem? (i := 582) (by decide +kernel), List.mem_of_getElem? (i := 583) (by decide +kernel)⟩
theorem lw_p15 : lw_okq (⟨"GlassPlanner$Colouring", "fewestNeighboursAmong", "(J)I"⟩, 3) := ⟨⟨by decide +kernel, by decide +kernel⟩, List.mem_of_getElem? (i := 176) (by decide +kernel), List.mem_of_getElem? (i := 586) (by decide +kernel), List.mem_of_getElem? (i := 587) (by decide +kernel)⟩
def lw_privs_1 : List (MethodName × Nat) := [(⟨"GlassPlanner$Panes", "fragment", "(JJ)J"⟩, 7), (⟨"GlassPlanner$Panes", "touching", "(I)J"⟩, 7), (⟨"GlassPlanner", "refresh", "()V"⟩, 6), (⟨"GlassPlanner", "flipCut", "(III)I"⟩, 6), (⟨"GlassPlanner$Splitter", "frame", "()V"⟩, 9), (⟨"GlassPlanner$Splitter", "planPart", "(IIII)V"⟩, 9), (⟨"GlassPlanner$Splitter", "crossedBelow", "(JI)J"⟩, 9), (⟨"GlassPlanner$Splitter", "offer", "(III)V"⟩, 9), (⟨"GlassPlanner$Splitter", "crossedRight", "(JI)J"⟩, 9), (⟨"GlassPlanner$Splitter", "cutPart", "(LGlassPlanner$Drawing;IIIII)V"⟩, 9), (⟨"GlassPlanner$Panes", "colourOf", "(I)I"⟩, 7), (⟨"GlassPlanner$Colouring", "arrangeByNumber", "()V"⟩, 3), (⟨"GlassPlanner$Colouring", "arrangeByNeighbours", "()V"⟩, 3), (⟨"GlassPlanner$Colouring", "mostNeighbours", "(J)I"⟩, 3), (⟨"GlassPlanner$Colouring", "arrangeByRemoval", "()V"⟩, 3), (⟨"GlassPlanner$Colouring", "fewestNeighboursAmong", "(J)I"⟩, 3)]
theorem lw_r1 : ∀ q ∈ lw_privs_1, lw_okq q := List.forall_mem_cons.mpr ⟨lw_p0, List.forall_mem_cons.mpr ⟨lw_p1, List.forall_mem_cons.mpr ⟨lw_p2, List.forall_mem_cons.mpr ⟨lw_p3, List.forall_mem_cons.mpr ⟨lw_p4, List.forall_mem_cons.mpr ⟨lw_p5, List.forall_mem_cons.mpr ⟨lw_p6, List.forall_mem_cons.mpr ⟨lw_p7, List.forall_mem_cons.mpr ⟨lw_p8, List.forall_mem_cons.mpr ⟨lw_p9, List.forall_mem_cons.mpr ⟨lw_p10, List.forall_mem_cons.mpr ⟨lw_p11, List.forall_mem_cons.mpr ⟨lw_p12, List.forall_mem_cons.mpr ⟨lw_p13, List.forall_mem_cons.mpr ⟨lw_p14, List.forall_mem_cons.mpr ⟨lw_p15, fun _ h => absurd h List.not_mem_nil⟩⟩⟩⟩⟩⟩⟩⟩⟩⟩⟩⟩⟩⟩⟩⟩
theorem lw_p16 : lw_okq (⟨"GlassPlanner$Colouring", "smallestFree", "(I)I"⟩, 3) := ⟨⟨by decide +kernel, by decide +kernel⟩, List.mem_of_getElem? (i := 176) (by decide +kernel), List.mem_of_getElem? (i := 590) (by decide +kernel), List.mem_of_getElem? (i := 591) (by decide +kernel)⟩
theorem lw_p17 : lw_okq (⟨"GlassPlanner$Panes", "cliqueAmong", "(JI)I"⟩, 7) := ⟨⟨by decide +kernel, by decide +kernel⟩, List.mem_of_getElem? (i := 104) (by decide +kernel), List.mem_of_getElem? (i := 612) (by decide +kernel), List.mem_of_getElem? (i := 613) (by decide +kernel)⟩
theorem lw_p18 : lw_okq (⟨"GlassPlannerModel", "reads", "()I"⟩, 27) := ⟨⟨by decide +kernel, by decide +kernel⟩, List.mem_of_getElem? (i := 627) (by decide +kernel), List.mem_of_getElem? (i := 735) (by decide +kernel), List.mem_of_getElem? (i := 736) (by decide +kernel)⟩
theorem lw_p19 : lw_okq (⟨"GlassPlannerModel", "save", "()V"⟩, 27) := ⟨⟨by decide +kernel, by decide +kernel⟩, List.mem_of_getElem? (i := 627) (by decide +kernel), List.mem_of_getElem? (i := 739) (by decide +kernel), List.mem_of_getElem? (i := 740) (by decide +kernel)⟩
theorem lw_p20 : lw_okq (⟨"GlassPlannerModel", "findPanes", "()V"⟩, 27) := ⟨⟨by decide +kernel, by decide +kernel⟩, List.mem_of_getElem? (i := 627) (by decide +kernel), List.mem_of_getElem? (i := 743) (by decide +kernel), List.mem_of_getElem? (i := 744) (by decide +kernel)⟩
theorem lw_p21 : lw_okq (⟨"GlassPlannerModel", "wholeDrawing", "()V"⟩, 27) := ⟨⟨by decide +kernel, by decide +kernel⟩, List.mem_of_getElem? (i := 627) (by decide +kernel), List.mem_of_getElem? (i := 747) (by decide +kernel), List.mem_of_getElem? (i := 748) (by decide +kernel)⟩
theorem lw_p22 : lw_okq (⟨"GlassPlannerModel", "isCell", "(II)Z"⟩, 27) := ⟨⟨by decide +kernel, by decide +kernel⟩, List.mem_of_getElem? (i := 627) (by decide +kernel), List.mem_of_getElem? (i := 751) (by decide +kernel), List.mem_of_getElem? (i := 752) (by decide +kernel)⟩
theorem lw_p23 : lw_okq (⟨"GlassPlannerModel", "spread", "([III)I"⟩, 27) := ⟨⟨by decide +kernel, by decide +kernel⟩, List.mem_of_getElem? (i := 627) (by decide +kernel), List.mem_of_getElem? (i := 755) (by decide +kernel), List.mem_of_getElem? (i := 756) (by decide +kernel)⟩
theorem lw_p24 : lw_okq (⟨"GlassPlannerModel", "joins", "(II)Z"⟩, 27) := ⟨⟨by decide +kernel, by decide +kernel⟩, List.mem_of_getElem? (i := 627) (by decide +kernel), List.mem_of_getElem? (i := 762) (by decide +kernel), List.mem_of_getElem? (i := 763) (by decide +kernel)⟩
theorem lw_p25 : lw_okq (⟨"GlassPlannerModel", "hasNext", "(II)Z"⟩, 27) := ⟨⟨by decide +kernel, by decide +kernel⟩, List.mem_of_getElem? (i := 627) (by decide +kernel), List.mem_of_getElem? (i := 766) (by decide +kernel), List.mem_of_getElem? (i := 767) (by decide +kernel)⟩
theorem lw_p26 : lw_okq (⟨"GlassPlannerModel", "changed", "(II)I"⟩, 27) := ⟨⟨by decide +kernel, by decide +kernel⟩, List.mem_of_getElem? (i := 627) (by decide +kernel), List.mem_of_getElem? (i := 774) (by decide +kernel), List.mem_of_getElem? (i := 775) (by decide +kernel)⟩
theorem lw_p27 : lw_okq (⟨"GlassPlannerModel", "isCut", "(III)Z"⟩, 27) := ⟨⟨by decide +kernel, by decide +kernel⟩, List.mem_of_getElem? (i := 627) (by decide +kernel), List.mem_of_getElem? (i := 794) (by decide +kernel), List.mem_of_getElem? (i := 795) (by decide +kernel)⟩
theorem lw_p28 : lw_okq (⟨"GlassPlannerModel", "cuts", "()I"⟩, 27) := ⟨⟨by decide +kernel, by decide +kernel⟩, List.mem_of_getElem? (i := 627) (by decide +kernel), List.mem_of_getElem? (i := 798) (by decide +kernel), List.mem_of_getElem? (i := 799) (by decide +kernel)⟩
theorem lw_p29 : lw_okq (⟨"GlassPlannerModel", "isPane", "(I)Z"⟩, 27) := ⟨⟨by decide +kernel, by decide +kernel⟩, List.mem_of_getElem? (i := 627) (by decide +kernel), List.mem_of_getElem? (i := 818) (by decide +kernel), List.mem_of_getElem? (i := 819) (by decide +kernel)⟩
theorem lw_p30 : lw_okq (⟨"GlassPlannerModel", "corners", "([II)I"⟩, 27) := ⟨⟨by decide +kernel, by decide +kernel⟩, List.mem_of_getElem? (i := 627) (by decide +kernel), List.mem_of_getElem? (i := 826) (by decide +kernel), List.mem_of_getElem? (i := 827) (by decide +kernel)⟩
theorem lw_p31 : lw_okq (⟨"GlassPlannerModel", "holesOf", "([II)I"⟩, 27) := ⟨⟨by decide +kernel, by decide +kernel⟩, List.mem_of_getElem? (i := 627) (by decide +kernel), List.mem_of_getElem? (i := 834) (by decide +kernel), List.mem_of_getElem? (i := 835) (by decide +kernel)⟩
def lw_privs_2 : List (MethodName × Nat) := [(⟨"GlassPlanner$Colouring", "smallestFree", "(I)I"⟩, 3), (⟨"GlassPlanner$Panes", "cliqueAmong", "(JI)I"⟩, 7), (⟨"GlassPlannerModel", "reads", "()I"⟩, 27), (⟨"GlassPlannerModel", "save", "()V"⟩, 27), (⟨"GlassPlannerModel", "findPanes", "()V"⟩, 27), (⟨"GlassPlannerModel", "wholeDrawing", "()V"⟩, 27), (⟨"GlassPlannerModel", "isCell", "(II)Z"⟩, 27), (⟨"GlassPlannerModel", "spread", "([III)I"⟩, 27), (⟨"GlassPlannerModel", "joins", "(II)Z"⟩, 27), (⟨"GlassPlannerModel", "hasNext", "(II)Z"⟩, 27), (⟨"GlassPlannerModel", "changed", "(II)I"⟩, 27), (⟨"GlassPlannerModel", "isCut", "(III)Z"⟩, 27), (⟨"GlassPlannerModel", "cuts", "()I"⟩, 27), (⟨"GlassPlannerModel", "isPane", "(I)Z"⟩, 27), (⟨"GlassPlannerModel", "corners", "([II)I"⟩, 27), (⟨"GlassPlannerModel", "holesOf", "([II)I"⟩, 27)]
theorem lw_r2 : ∀ q ∈ lw_privs_2, lw_okq q := List.forall_mem_cons.mpr ⟨lw_p16, List.forall_mem_cons.mpr ⟨lw_p17, List.forall_mem_cons.mpr ⟨lw_p18, List.forall_mem_cons.mpr ⟨lw_p19, List.forall_mem_cons.mpr ⟨lw_p20, List.forall_mem_cons.mpr ⟨lw_p21, List.forall_mem_cons.mpr ⟨lw_p22, List.forall_mem_cons.mpr ⟨lw_p23, List.forall_mem_cons.mpr ⟨lw_p24, List.forall_mem_cons.mpr ⟨lw_p25, List.forall_mem_cons.mpr ⟨lw_p26, List.forall_mem_cons.mpr ⟨lw_p27, List.forall_mem_cons.mpr ⟨lw_p28, List.forall_mem_cons.mpr ⟨lw_p29, List.forall_mem_cons.mpr ⟨lw_p30, List.forall_mem_cons.mpr ⟨lw_p31, fun _ h => absurd h List.not_mem_nil⟩⟩⟩⟩⟩⟩⟩⟩⟩⟩⟩⟩⟩⟩⟩⟩
theorem lw_p32 : lw_okq (⟨"GlassPlannerModel", "isHole", "([III)Z"⟩, 27) := ⟨⟨by decide +kernel, by decide +kernel⟩, List.mem_of_getElem? (i := 627) (by decide +kernel), List.mem_of_getElem? (i := 838) (by decide +kernel), List.mem_of_getElem? (i := 839) (by decide +kernel)⟩
theorem lw_p33 : lw_okq (⟨"GlassPlannerModel", "isEdge", "(I)Z"⟩, 27) := ⟨⟨by decide +kernel, by decide +kernel⟩, List.mem_of_getElem? (i := 627) (by decide +kernel), List.mem_of_getElem? (i := 842) (by decide +kernel), List.mem_of_getElem? (i := 843) (by decide +kernel)⟩
theorem lw_p34 : lw_okq (⟨"GlassPlannerModel", "canCut", "(I)Z"⟩, 27) := ⟨⟨by decide +kernel, by decide +kernel⟩, List.mem_of_getElem? (i := 627) (by decide +kernel), List.mem_of_getElem? (i := 850) (by decide +kernel), List.mem_of_getElem? (i := 851) (by decide +kernel)⟩
theorem lw_p35 : lw_okq (⟨"GlassPlannerModel", "isEasy", "([III)Z"⟩, 27) := ⟨⟨by decide +kernel, by decide +kernel⟩, List.mem_of_getElem? (i := 627) (by decide +kernel), List.mem_of_getElem? (i := 854) (by decide +kernel), List.mem_of_getElem? (i := 855) (by decide +kernel)⟩
theorem lw_p36 : lw_okq (⟨"GlassPlannerModel", "isLoose", "(I)Z"⟩, 27) := ⟨⟨by decide +kernel, by decide +kernel⟩, List.mem_of_getElem? (i := 627) (by decide +kernel), List.mem_of_getElem? (i := 866) (by decide +kernel), List.mem_of_getElem? (i := 867) (by decide +kernel)⟩
theorem lw_p37 : lw_okq (⟨"GlassPlannerModel", "findNear", "()I"⟩, 27) := ⟨⟨by decide +kernel, by decide +kernel⟩, List.mem_of_getElem? (i := 627) (by decide +kernel), List.mem_of_getElem? (i := 879) (by decide +kernel), List.mem_of_getElem? (i := 880) (by decide +kernel)⟩
theorem lw_p38 : lw_okq (⟨"GlassPlannerModel", "layPlan", "(I)I"⟩, 27) := ⟨⟨by decide +kernel, by decide +kernel⟩, List.mem_of_getElem? (i := 627) (by decide +kernel), List.mem_of_getElem? (i := 899) (by decide +kernel), List.mem_of_getElem? (i := 900) (by decide +kernel)⟩
theorem lw_p39 : lw_okq (⟨"GlassPlannerModel", "layBox", "(I)V"⟩, 27) := ⟨⟨by decide +kernel, by decide +kernel⟩, List.mem_of_getElem? (i := 627) (by decide +kernel), List.mem_of_getElem? (i := 903) (by decide +kernel), List.mem_of_getElem? (i := 904) (by decide +kernel)⟩
theorem lw_p40 : lw_okq (⟨"GlassPlannerModel", "easyMany", "(I)I"⟩, 27) := ⟨⟨by decide +kernel, by decide +kernel⟩, List.mem_of_getElem? (i := 627) (by decide +kernel), List.mem_of_getElem? (i := 910) (by decide +kernel), List.mem_of_getElem? (i := 911) (by decide +kernel)⟩
theorem lw_p41 : lw_okq (⟨"GlassPlannerModel", "apartBelow", "(IIII)I"⟩, 27) := ⟨⟨by decide +kernel, by decide +kernel⟩, List.mem_of_getElem? (i := 627) (by decide +kernel), List.mem_of_getElem? (i := 914) (by decide +kernel), List.mem_of_getElem? (i := 915) (by decide +kernel)⟩
theorem lw_p42 : lw_okq (⟨"GlassPlannerModel", "tries", "(IIIII)V"⟩, 27) := ⟨⟨by decide +kernel, by decide +kernel⟩, List.mem_of_getElem? (i := 627) (by decide +kernel), List.mem_of_getElem? (i := 918) (by decide +kernel), List.mem_of_getElem? (i := 919) (by decide +kernel)⟩
theorem lw_p43 : lw_okq (⟨"GlassPlannerModel", "apartRight", "(IIII)I"⟩, 27) := ⟨⟨by decide +kernel, by decide +kernel⟩, List.mem_of_getElem? (i := 627) (by decide +kernel), List.mem_of_getElem? (i := 922) (by decide +kernel), List.mem_of_getElem? (i := 923) (by decide +kernel)⟩
theorem lw_p44 : lw_okq (⟨"GlassPlannerModel", "cutBy", "(III)I"⟩, 27) := ⟨⟨by decide +kernel, by decide +kernel⟩, List.mem_of_getElem? (i := 627) (by decide +kernel), List.mem_of_getElem? (i := 934) (by decide +kernel), List.mem_of_getElem? (i := 935) (by decide +kernel)⟩
theorem lw_p45 : lw_okq (⟨"GlassPlannerModel", "firstOf", "(I)I"⟩, 27) := ⟨⟨by decide +kernel, by decide +kernel⟩, List.mem_of_getElem? (i := 627) (by decide +kernel), List.mem_of_getElem? (i := 942) (by decide +kernel), List.mem_of_getElem? (i := 943) (by decide +kernel)⟩
theorem lw_p46 : lw_okq (⟨"GlassPlannerModel", "colourAll", "(I)I"⟩, 27) := ⟨⟨by decide +kernel, by decide +kernel⟩, List.mem_of_getElem? (i := 627) (by decide +kernel), List.mem_of_getElem? (i := 950) (by decide +kernel), List.mem_of_getElem? (i := 951) (by decide +kernel)⟩
theorem lw_p47 : lw_okq (⟨"GlassPlannerModel", "nextPane", "(I)I"⟩, 27) := ⟨⟨by decide +kernel, by decide +kernel⟩, List.mem_of_getElem? (i := 627) (by decide +kernel), List.mem_of_getElem? (i := 954) (by decide +kernel), List.mem_of_getElem? (i := 955) (by decide +kernel)⟩
def lw_privs_3 : List (MethodName × Nat) := [(⟨"GlassPlannerModel", "isHole", "([III)Z"⟩, 27), (⟨"GlassPlannerModel", "isEdge", "(I)Z"⟩, 27), (⟨"GlassPlannerModel", "canCut", "(I)Z"⟩, 27), (⟨"GlassPlannerModel", "isEasy", "([III)Z"⟩, 27), (⟨"GlassPlannerModel", "isLoose", "(I)Z"⟩, 27), (⟨"GlassPlannerModel", "findNear", "()I"⟩, 27), (⟨"GlassPlannerModel", "layPlan", "(I)I"⟩, 27), (⟨"GlassPlannerModel", "layBox", "(I)V"⟩, 27), (⟨"GlassPlannerModel", "easyMany", "(I)I"⟩, 27), (⟨"GlassPlannerModel", "apartBelow", "(IIII)I"⟩, 27), (⟨"GlassPlannerModel", "tries", "(IIIII)V"⟩, 27), (⟨"GlassPlannerModel", "apartRight", "(IIII)I"⟩, 27), (⟨"GlassPlannerModel", "cutBy", "(III)I"⟩, 27), (⟨"GlassPlannerModel", "firstOf", "(I)I"⟩, 27), (⟨"GlassPlannerModel", "colourAll", "(I)I"⟩, 27), (⟨"GlassPlannerModel", "nextPane", "(I)I"⟩, 27)]
theorem lw_r3 : ∀ q ∈ lw_privs_3, lw_okq q := List.forall_mem_cons.mpr ⟨lw_p32, List.forall_mem_cons.mpr ⟨lw_p33, List.forall_mem_cons.mpr ⟨lw_p34, List.forall_mem_cons.mpr ⟨lw_p35, List.forall_mem_cons.mpr ⟨lw_p36, List.forall_mem_cons.mpr ⟨lw_p37, List.forall_mem_cons.mpr ⟨lw_p38, List.forall_mem_cons.mpr ⟨lw_p39, List.forall_mem_cons.mpr ⟨lw_p40, List.forall_mem_cons.mpr ⟨lw_p41, List.forall_mem_cons.mpr ⟨lw_p42, List.forall_mem_cons.mpr ⟨lw_p43, List.forall_mem_cons.mpr ⟨lw_p44, List.forall_mem_cons.mpr ⟨lw_p45, List.forall_mem_cons.mpr ⟨lw_p46, List.forall_mem_cons.mpr ⟨lw_p47, fun _ h => absurd h List.not_mem_nil⟩⟩⟩⟩⟩⟩⟩⟩⟩⟩⟩⟩⟩⟩⟩⟩
theorem lw_p48 : lw_okq (⟨"GlassPlannerModel", "leftNear", "(I)I"⟩, 27) := ⟨⟨by decide +kernel, by decide +kernel⟩, List.mem_of_getElem? (i := 627) (by decide +kernel), List.mem_of_getElem? (i := 958) (by decide +kernel), List.mem_of_getElem? (i := 959) (by decide +kernel)⟩
theorem lw_p49 : lw_okq (⟨"GlassPlannerModel", "colourOne", "(I)V"⟩, 27) := ⟨⟨by decide +kernel, by decide +kernel⟩, List.mem_of_getElem? (i := 627) (by decide +kernel), List.mem_of_getElem? (i := 962) (by decide +kernel), List.mem_of_getElem? (i := 963) (by decide +kernel)⟩
theorem lw_p50 : lw_okq (⟨"GlassPlannerModel", "areNear", "(II)Z"⟩, 27) := ⟨⟨by decide +kernel, by decide +kernel⟩, List.mem_of_getElem? (i := 627) (by decide +kernel), List.mem_of_getElem? (i := 978) (by decide +kernel), List.mem_of_getElem? (i := 979) (by decide +kernel)⟩
def lw_privs_4 : List (MethodName × Nat) := [(⟨"GlassPlannerModel", "leftNear", "(I)I"⟩, 27), (⟨"GlassPlannerModel", "colourOne", "(I)V"⟩, 27), (⟨"GlassPlannerModel", "areNear", "(II)Z"⟩, 27)]
theorem lw_r4 : ∀ q ∈ lw_privs_4, lw_okq q := List.forall_mem_cons.mpr ⟨lw_p48, List.forall_mem_cons.mpr ⟨lw_p49, List.forall_mem_cons.mpr ⟨lw_p50, fun _ h => absurd h List.not_mem_nil⟩⟩⟩
def lw_privs : List (MethodName × Nat) := lw_privs_1 ++ (lw_privs_2 ++ (lw_privs_3 ++ (lw_privs_4)))
def lw_tbl : List Cond := k2_sels lw_privs ++ tables_1
theorem lw_privs_ok : ∀ q ∈ lw_privs, lw_okq q := by
  show ∀ q ∈ lw_privs_1 ++ (lw_privs_2 ++ (lw_privs_3 ++ (lw_privs_4))), lw_okq q
  exact List.forall_mem_append.mpr ⟨lw_r1, List.forall_mem_append.mpr ⟨lw_r2, List.forall_mem_append.mpr ⟨lw_r3, lw_r4⟩⟩⟩
end
section
def RX0 : String := "GlassPlanner$Cells"
def TX0 : u_T := fun k => match k with
  | _ => ("", "", "", false)
def tyX0 : Nat → FieldType := fun k => match k with
  | _ => .int
abbrev wsX00 : List Cond := u_ws RX0 TX0 0
theorem nmX0 : ∀ a, a < 0 → ∀ b, b < 0 → a ≠ b → (TX0 a).2.1 ≠ (TX0 b).2.1 := by decide +kernel
theorem tyX0_ok : ∀ k, k < 0 → parseFieldDescriptor (TX0 k).2.2.1 = some (tyX0 k) := by decide +kernel
abbrev cX0_number : ByteArray := prog_2_method_2_code
def yX0_number : MethodName := ⟨RX0, "number", "(II)I"⟩
abbrev cX0_only : ByteArray := prog_2_method_3_code
def yX0_only : MethodName := ⟨RX0, "only", "(II)J"⟩
abbrev cX0_inRow : ByteArray := prog_2_method_4_code
def yX0_inRow : MethodName := ⟨RX0, "inRow", "(I)J"⟩
abbrev cX0_inColumn : ByteArray := prog_2_method_5_code
def yX0_inColumn : MethodName := ⟨RX0, "inColumn", "(I)J"⟩
abbrev cX0_block : ByteArray := prog_2_method_6_code
def yX0_block : MethodName := ⟨RX0, "block", "(IIII)J"⟩
abbrev cX0_first : ByteArray := prog_2_method_7_code
def yX0_first : MethodName := ⟨RX0, "first", "(J)J"⟩
abbrev cX0_numberOfFirst : ByteArray := prog_2_method_8_code
def yX0_numberOfFirst : MethodName := ⟨RX0, "numberOfFirst", "(J)I"⟩
abbrev cX0_pairsRight : ByteArray := prog_2_method_9_code
def yX0_pairsRight : MethodName := ⟨RX0, "pairsRight", "(J)J"⟩
abbrev cX0_pairsBelow : ByteArray := prog_2_method_10_code
def yX0_pairsBelow : MethodName := ⟨RX0, "pairsBelow", "(J)J"⟩
abbrev cX0_countPairs : ByteArray := prog_2_method_11_code
def yX0_countPairs : MethodName := ⟨RX0, "countPairs", "(J)I"⟩
abbrev cX0_beside : ByteArray := prog_2_method_12_code
def yX0_beside : MethodName := ⟨RX0, "beside", "(J)J"⟩
abbrev cX0_countInnerCorners : ByteArray := prog_2_method_13_code
def yX0_countInnerCorners : MethodName := ⟨RX0, "countInnerCorners", "(J)I"⟩
abbrev cX0_countHoles : ByteArray := prog_2_method_14_code
def yX0_countHoles : MethodName := ⟨RX0, "countHoles", "(JJ)I"⟩
abbrev cX0_connected : ByteArray := prog_2_method_15_code
def yX0_connected : MethodName := ⟨RX0, "connected", "(JJ)J"⟩
def RX1 : String := "GlassPlanner$Colouring"
def TX1 : u_T := fun k => match k with
  | 0 => ("GlassPlanner$Colouring", "panes", "LGlassPlanner$Panes;", true)
  | 1 => ("GlassPlanner$Colouring", "sequence", "[I", true)
  | _ => ("GlassPlanner$Colouring", "given", "[I", true)
def tyX1 : Nat → FieldType := fun k => match k with
  | 0 => .object "GlassPlanner$Panes"
  | 1 => .array .int
  | _ => .array .int
abbrev wsX10 : List Cond := u_ws RX1 TX1 3
theorem nmX1 : ∀ a, a < 3 → ∀ b, b < 3 → a ≠ b → (TX1 a).2.1 ≠ (TX1 b).2.1 := by decide +kernel
theorem tyX1_ok : ∀ k, k < 3 → parseFieldDescriptor (TX1 k).2.2.1 = some (tyX1 k) := by decide +kernel
abbrev cX1_init : ByteArray := prog_3_method_1_code
def yX1_init : MethodName := ⟨RX1, "<init>", "(LGlassPlanner$Panes;)V"⟩
abbrev cX1_hasOrder : ByteArray := prog_3_method_2_code
def yX1_hasOrder : MethodName := ⟨RX1, "hasOrder", "(I)Z"⟩
abbrev cX1_paint : ByteArray := prog_3_method_3_code
def yX1_paint : MethodName := ⟨RX1, "paint", "(I)I"⟩
abbrev cX1_smallestFree : ByteArray := prog_3_method_4_code
def yX1_smallestFree : MethodName := ⟨RX1, "smallestFree", "(I)I"⟩
abbrev cX1_arrangeByNumber : ByteArray := prog_3_method_5_code
def yX1_arrangeByNumber : MethodName := ⟨RX1, "arrangeByNumber", "()V"⟩
abbrev cX1_arrangeByNeighbours : ByteArray := prog_3_method_6_code
def yX1_arrangeByNeighbours : MethodName := ⟨RX1, "arrangeByNeighbours", "()V"⟩
abbrev cX1_arrangeByRemoval : ByteArray := prog_3_method_7_code
def yX1_arrangeByRemoval : MethodName := ⟨RX1, "arrangeByRemoval", "()V"⟩
abbrev cX1_mostNeighbours : ByteArray := prog_3_method_8_code
def yX1_mostNeighbours : MethodName := ⟨RX1, "mostNeighbours", "(J)I"⟩
abbrev cX1_fewestNeighboursAmong : ByteArray := prog_3_method_9_code
def yX1_fewestNeighboursAmong : MethodName := ⟨RX1, "fewestNeighboursAmong", "(J)I"⟩
def RX2 : String := "GlassPlanner$Drawing"
def TX2 : u_T := fun k => match k with
  | 0 => ("GlassPlanner$Drawing", "rows", "I", false)
  | 1 => ("GlassPlanner$Drawing", "columns", "I", false)
  | 2 => ("GlassPlanner$Drawing", "colours", "[I", true)
  | 3 => ("GlassPlanner$Drawing", "cutsRight", "J", false)
  | 4 => ("GlassPlanner$Drawing", "cutsBelow", "J", false)
  | 5 => ("GlassPlanner$Drawing", "cellLimit", "I", false)
  | _ => ("GlassPlanner$Drawing", "cornerLimit", "I", false)
def tyX2 : Nat → FieldType := fun k => match k with
  | 0 => .int
  | 1 => .int
  | 2 => .array .int
  | 3 => .long
  | 4 => .long
  | 5 => .int
  | _ => .int
abbrev wsX20 : List Cond := u_ws RX2 TX2 7
theorem nmX2 : ∀ a, a < 7 → ∀ b, b < 7 → a ≠ b → (TX2 a).2.1 ≠ (TX2 b).2.1 := by decide +kernel
theorem tyX2_ok : ∀ k, k < 7 → parseFieldDescriptor (TX2 k).2.2.1 = some (tyX2 k) := by decide +kernel
abbrev cX2_init : ByteArray := prog_4_method_1_code
def yX2_init : MethodName := ⟨RX2, "<init>", "()V"⟩
abbrev cX2_copyFrom : ByteArray := prog_4_method_2_code
def yX2_copyFrom : MethodName := ⟨RX2, "copyFrom", "(LGlassPlanner$Drawing;)V"⟩
abbrev cX2_hasCell : ByteArray := prog_4_method_3_code
def yX2_hasCell : MethodName := ⟨RX2, "hasCell", "(II)Z"⟩
abbrev cX2_hasPair : ByteArray := prog_4_method_4_code
def yX2_hasPair : MethodName := ⟨RX2, "hasPair", "(III)Z"⟩
abbrev cX2_hasCut : ByteArray := prog_4_method_5_code
def yX2_hasCut : MethodName := ⟨RX2, "hasCut", "(III)Z"⟩
abbrev cX2_flip : ByteArray := prog_4_method_6_code
def yX2_flip : MethodName := ⟨RX2, "flip", "(III)V"⟩
abbrev cX2_countCuts : ByteArray := prog_4_method_7_code
def yX2_countCuts : MethodName := ⟨RX2, "countCuts", "()I"⟩
abbrev cX2_isJoined : ByteArray := prog_4_method_8_code
def yX2_isJoined : MethodName := ⟨RX2, "isJoined", "(III)Z"⟩
abbrev cX2_joined : ByteArray := prog_4_method_9_code
def yX2_joined : MethodName := ⟨RX2, "joined", "(I)J"⟩
def RX3 : String := "GlassPlanner$History"
def TX3 : u_T := fun k => match k with
  | 0 => ("GlassPlanner$History", "kept", "[LGlassPlanner$Drawing;", true)
  | 1 => ("GlassPlanner$History", "next", "I", false)
  | _ => ("GlassPlanner$History", "count", "I", false)
def tyX3 : Nat → FieldType := fun k => match k with
  | 0 => .array (.object "GlassPlanner$Drawing")
  | 1 => .int
  | _ => .int
abbrev wsX30 : List Cond := u_ws RX3 TX3 3
theorem nmX3 : ∀ a, a < 3 → ∀ b, b < 3 → a ≠ b → (TX3 a).2.1 ≠ (TX3 b).2.1 := by decide +kernel
theorem tyX3_ok : ∀ k, k < 3 → parseFieldDescriptor (TX3 k).2.2.1 = some (tyX3 k) := by decide +kernel
abbrev cX3_init : ByteArray := prog_5_method_1_code
def yX3_init : MethodName := ⟨RX3, "<init>", "()V"⟩
abbrev cX3_remember : ByteArray := prog_5_method_2_code
def yX3_remember : MethodName := ⟨RX3, "remember", "(LGlassPlanner$Drawing;)V"⟩
abbrev cX3_restore : ByteArray := prog_5_method_3_code
def yX3_restore : MethodName := ⟨RX3, "restore", "(LGlassPlanner$Drawing;)V"⟩
def RX4 : String := "GlassPlanner$Panes"
def TX4 : u_T := fun k => match k with
  | 0 => ("GlassPlanner$Panes", "drawing", "LGlassPlanner$Drawing;", true)
  | 1 => ("GlassPlanner$Panes", "all", "J", false)
  | 2 => ("GlassPlanner$Panes", "joinedRight", "J", false)
  | 3 => ("GlassPlanner$Panes", "joinedBelow", "J", false)
  | 4 => ("GlassPlanner$Panes", "count", "I", false)
  | 5 => ("GlassPlanner$Panes", "cells", "[J", true)
  | _ => ("GlassPlanner$Panes", "neighbours", "[J", true)
def tyX4 : Nat → FieldType := fun k => match k with
  | 0 => .object "GlassPlanner$Drawing"
  | 1 => .long
  | 2 => .long
  | 3 => .long
  | 4 => .int
  | 5 => .array .long
  | _ => .array .long
abbrev wsX40 : List Cond := u_ws RX4 TX4 7
theorem nmX4 : ∀ a, a < 7 → ∀ b, b < 7 → a ≠ b → (TX4 a).2.1 ≠ (TX4 b).2.1 := by decide +kernel
theorem tyX4_ok : ∀ k, k < 7 → parseFieldDescriptor (TX4 k).2.2.1 = some (tyX4 k) := by decide +kernel
abbrev cX4_init : ByteArray := prog_6_method_1_code
def yX4_init : MethodName := ⟨RX4, "<init>", "(LGlassPlanner$Drawing;)V"⟩
abbrev cX4_find : ByteArray := prog_6_method_2_code
def yX4_find : MethodName := ⟨RX4, "find", "()V"⟩
abbrev cX4_fragment : ByteArray := prog_6_method_3_code
def yX4_fragment : MethodName := ⟨RX4, "fragment", "(JJ)J"⟩
abbrev cX4_touching : ByteArray := prog_6_method_4_code
def yX4_touching : MethodName := ⟨RX4, "touching", "(I)J"⟩
abbrev cX4_hasPane : ByteArray := prog_6_method_5_code
def yX4_hasPane : MethodName := ⟨RX4, "hasPane", "(I)Z"⟩
abbrev cX4_everyPane : ByteArray := prog_6_method_6_code
def yX4_everyPane : MethodName := ⟨RX4, "everyPane", "()J"⟩
abbrev cX4_numberOf : ByteArray := prog_6_method_7_code
def yX4_numberOf : MethodName := ⟨RX4, "numberOf", "(J)I"⟩
abbrev cX4_isEasy : ByteArray := prog_6_method_8_code
def yX4_isEasy : MethodName := ⟨RX4, "isEasy", "(J)Z"⟩
abbrev cX4_countEasyFragments : ByteArray := prog_6_method_9_code
def yX4_countEasyFragments : MethodName := ⟨RX4, "countEasyFragments", "(J)I"⟩
abbrev cX4_looseRight : ByteArray := prog_6_method_10_code
def yX4_looseRight : MethodName := ⟨RX4, "looseRight", "()J"⟩
abbrev cX4_looseBelow : ByteArray := prog_6_method_11_code
def yX4_looseBelow : MethodName := ⟨RX4, "looseBelow", "()J"⟩
abbrev cX4_measureLead : ByteArray := prog_6_method_12_code
def yX4_measureLead : MethodName := ⟨RX4, "measureLead", "()I"⟩
abbrev cX4_countEqualNeighbours : ByteArray := prog_6_method_13_code
def yX4_countEqualNeighbours : MethodName := ⟨RX4, "countEqualNeighbours", "()I"⟩
abbrev cX4_colourOf : ByteArray := prog_6_method_14_code
def yX4_colourOf : MethodName := ⟨RX4, "colourOf", "(I)I"⟩
abbrev cX4_measureClique : ByteArray := prog_6_method_15_code
def yX4_measureClique : MethodName := ⟨RX4, "measureClique", "()I"⟩
abbrev cX4_cliqueAmong : ByteArray := prog_6_method_16_code
def yX4_cliqueAmong : MethodName := ⟨RX4, "cliqueAmong", "(JI)I"⟩
def RX5 : String := "GlassPlanner$Splitter"
def TX5 : u_T := fun k => match k with
  | 0 => ("GlassPlanner$Splitter", "panes", "LGlassPlanner$Panes;", true)
  | 1 => ("GlassPlanner$Splitter", "planned", "I", false)
  | 2 => ("GlassPlanner$Splitter", "cells", "J", false)
  | 3 => ("GlassPlanner$Splitter", "top", "I", false)
  | 4 => ("GlassPlanner$Splitter", "bottom", "I", false)
  | 5 => ("GlassPlanner$Splitter", "left", "I", false)
  | 6 => ("GlassPlanner$Splitter", "right", "I", false)
  | 7 => ("GlassPlanner$Splitter", "weights", "[I", true)
  | _ => ("GlassPlanner$Splitter", "lines", "[I", true)
def tyX5 : Nat → FieldType := fun k => match k with
  | 0 => .object "GlassPlanner$Panes"
  | 1 => .int
  | 2 => .long
  | 3 => .int
  | 4 => .int
  | 5 => .int
  | 6 => .int
  | 7 => .array .int
  | _ => .array .int
abbrev wsX50 : List Cond := u_ws RX5 TX5 9
theorem nmX5 : ∀ a, a < 9 → ∀ b, b < 9 → a ≠ b → (TX5 a).2.1 ≠ (TX5 b).2.1 := by decide +kernel
theorem tyX5_ok : ∀ k, k < 9 → parseFieldDescriptor (TX5 k).2.2.1 = some (tyX5 k) := by decide +kernel
abbrev cX5_init : ByteArray := prog_7_method_1_code
def yX5_init : MethodName := ⟨RX5, "<init>", "(LGlassPlanner$Panes;)V"⟩
abbrev cX5_forget : ByteArray := prog_7_method_2_code
def yX5_forget : MethodName := ⟨RX5, "forget", "()V"⟩
abbrev cX5_pieces : ByteArray := prog_7_method_3_code
def yX5_pieces : MethodName := ⟨RX5, "pieces", "()I"⟩
abbrev cX5_lead : ByteArray := prog_7_method_4_code
def yX5_lead : MethodName := ⟨RX5, "lead", "()I"⟩
abbrev cX5_plan : ByteArray := prog_7_method_5_code
def yX5_plan : MethodName := ⟨RX5, "plan", "(I)V"⟩
abbrev cX5_frame : ByteArray := prog_7_method_6_code
def yX5_frame : MethodName := ⟨RX5, "frame", "()V"⟩
abbrev cX5_planPart : ByteArray := prog_7_method_7_code
def yX5_planPart : MethodName := ⟨RX5, "planPart", "(IIII)V"⟩
abbrev cX5_offer : ByteArray := prog_7_method_8_code
def yX5_offer : MethodName := ⟨RX5, "offer", "(III)V"⟩
abbrev cX5_crossedBelow : ByteArray := prog_7_method_9_code
def yX5_crossedBelow : MethodName := ⟨RX5, "crossedBelow", "(JI)J"⟩
abbrev cX5_crossedRight : ByteArray := prog_7_method_10_code
def yX5_crossedRight : MethodName := ⟨RX5, "crossedRight", "(JI)J"⟩
abbrev cX5_cut : ByteArray := prog_7_method_11_code
def yX5_cut : MethodName := ⟨RX5, "cut", "(LGlassPlanner$Drawing;)V"⟩
abbrev cX5_cutPart : ByteArray := prog_7_method_12_code
def yX5_cutPart : MethodName := ⟨RX5, "cutPart", "(LGlassPlanner$Drawing;IIIII)V"⟩
abbrev cX5_place : ByteArray := prog_7_method_13_code
def yX5_place : MethodName := ⟨RX5, "place", "(IIII)I"⟩
abbrev cX5_span : ByteArray := prog_7_method_14_code
def yX5_span : MethodName := ⟨RX5, "span", "(II)I"⟩
def RX6 : String := "GlassPlanner$TextBuffer"
def TX6 : u_T := fun k => match k with
  | 0 => ("GlassPlanner$TextBuffer", "characters", "[I", true)
  | _ => ("GlassPlanner$TextBuffer", "length", "I", false)
def tyX6 : Nat → FieldType := fun k => match k with
  | 0 => .array .int
  | _ => .int
abbrev wsX60 : List Cond := u_ws RX6 TX6 2
theorem nmX6 : ∀ a, a < 2 → ∀ b, b < 2 → a ≠ b → (TX6 a).2.1 ≠ (TX6 b).2.1 := by decide +kernel
theorem tyX6_ok : ∀ k, k < 2 → parseFieldDescriptor (TX6 k).2.2.1 = some (tyX6 k) := by decide +kernel
abbrev cX6_init : ByteArray := prog_8_method_1_code
def yX6_init : MethodName := ⟨RX6, "<init>", "()V"⟩
abbrev cX6_append : ByteArray := prog_8_method_2_code
def yX6_append : MethodName := ⟨RX6, "append", "(I)Z"⟩
abbrev cX6_errorOffset : ByteArray := prog_8_method_3_code
def yX6_errorOffset : MethodName := ⟨RX6, "errorOffset", "()I"⟩
abbrev cX6_copyTo : ByteArray := prog_8_method_4_code
def yX6_copyTo : MethodName := ⟨RX6, "copyTo", "(LGlassPlanner$Drawing;)V"⟩
abbrev cX6_isDigit : ByteArray := prog_8_method_5_code
def yX6_isDigit : MethodName := ⟨RX6, "isDigit", "(I)Z"⟩
def RX7 : String := "GlassPlanner"
def TX7 : u_T := fun k => match k with
  | 0 => ("GlassPlanner", "text", "LGlassPlanner$TextBuffer;", true)
  | 1 => ("GlassPlanner", "drawing", "LGlassPlanner$Drawing;", true)
  | 2 => ("GlassPlanner", "history", "LGlassPlanner$History;", true)
  | 3 => ("GlassPlanner", "panes", "LGlassPlanner$Panes;", true)
  | 4 => ("GlassPlanner", "splitter", "LGlassPlanner$Splitter;", true)
  | _ => ("GlassPlanner", "colouring", "LGlassPlanner$Colouring;", true)
def tyX7 : Nat → FieldType := fun k => match k with
  | 0 => .object "GlassPlanner$TextBuffer"
  | 1 => .object "GlassPlanner$Drawing"
  | 2 => .object "GlassPlanner$History"
  | 3 => .object "GlassPlanner$Panes"
  | 4 => .object "GlassPlanner$Splitter"
  | _ => .object "GlassPlanner$Colouring"
abbrev wsX70 : List Cond := u_ws RX7 TX7 6
theorem nmX7 : ∀ a, a < 6 → ∀ b, b < 6 → a ≠ b → (TX7 a).2.1 ≠ (TX7 b).2.1 := by decide +kernel
theorem tyX7_ok : ∀ k, k < 6 → parseFieldDescriptor (TX7 k).2.2.1 = some (tyX7 k) := by decide +kernel
abbrev cX7_init : ByteArray := prog_1_method_1_code
def yX7_init : MethodName := ⟨RX7, "<init>", "()V"⟩
abbrev cX7_appendCharacter : ByteArray := prog_1_method_2_code
def yX7_appendCharacter : MethodName := ⟨RX7, "appendCharacter", "(I)I"⟩
abbrev cX7_clearText : ByteArray := prog_1_method_3_code
def yX7_clearText : MethodName := ⟨RX7, "clearText", "()I"⟩
abbrev cX7_loadDrawing : ByteArray := prog_1_method_4_code
def yX7_loadDrawing : MethodName := ⟨RX7, "loadDrawing", "()I"⟩
abbrev cX7_setColour : ByteArray := prog_1_method_5_code
def yX7_setColour : MethodName := ⟨RX7, "setColour", "(III)I"⟩
abbrev cX7_rows : ByteArray := prog_1_method_6_code
def yX7_rows : MethodName := ⟨RX7, "rows", "()I"⟩
abbrev cX7_columns : ByteArray := prog_1_method_7_code
def yX7_columns : MethodName := ⟨RX7, "columns", "()I"⟩
abbrev cX7_colourAt : ByteArray := prog_1_method_8_code
def yX7_colourAt : MethodName := ⟨RX7, "colourAt", "(II)I"⟩
abbrev cX7_addCut : ByteArray := prog_1_method_9_code
def yX7_addCut : MethodName := ⟨RX7, "addCut", "(III)I"⟩
abbrev cX7_removeCut : ByteArray := prog_1_method_10_code
def yX7_removeCut : MethodName := ⟨RX7, "removeCut", "(III)I"⟩
abbrev cX7_looseCuts : ByteArray := prog_1_method_11_code
def yX7_looseCuts : MethodName := ⟨RX7, "looseCuts", "()I"⟩
abbrev cX7_removeLooseCuts : ByteArray := prog_1_method_12_code
def yX7_removeLooseCuts : MethodName := ⟨RX7, "removeLooseCuts", "()I"⟩
abbrev cX7_paneCount : ByteArray := prog_1_method_13_code
def yX7_paneCount : MethodName := ⟨RX7, "paneCount", "()I"⟩
abbrev cX7_paneAt : ByteArray := prog_1_method_14_code
def yX7_paneAt : MethodName := ⟨RX7, "paneAt", "(II)I"⟩
abbrev cX7_paneSize : ByteArray := prog_1_method_15_code
def yX7_paneSize : MethodName := ⟨RX7, "paneSize", "(I)I"⟩
abbrev cX7_innerCorners : ByteArray := prog_1_method_16_code
def yX7_innerCorners : MethodName := ⟨RX7, "innerCorners", "(I)I"⟩
abbrev cX7_holes : ByteArray := prog_1_method_17_code
def yX7_holes : MethodName := ⟨RX7, "holes", "(I)I"⟩
abbrev cX7_canBeCut : ByteArray := prog_1_method_18_code
def yX7_canBeCut : MethodName := ⟨RX7, "canBeCut", "(I)I"⟩
abbrev cX7_cuttableCount : ByteArray := prog_1_method_19_code
def yX7_cuttableCount : MethodName := ⟨RX7, "cuttableCount", "()I"⟩
abbrev cX7_neighbourCount : ByteArray := prog_1_method_20_code
def yX7_neighbourCount : MethodName := ⟨RX7, "neighbourCount", "(I)I"⟩
abbrev cX7_leadLength : ByteArray := prog_1_method_21_code
def yX7_leadLength : MethodName := ⟨RX7, "leadLength", "()I"⟩
abbrev cX7_setCellLimit : ByteArray := prog_1_method_22_code
def yX7_setCellLimit : MethodName := ⟨RX7, "setCellLimit", "(I)I"⟩
abbrev cX7_setCornerLimit : ByteArray := prog_1_method_23_code
def yX7_setCornerLimit : MethodName := ⟨RX7, "setCornerLimit", "(I)I"⟩
abbrev cX7_splitPieces : ByteArray := prog_1_method_24_code
def yX7_splitPieces : MethodName := ⟨RX7, "splitPieces", "(I)I"⟩
abbrev cX7_splitLead : ByteArray := prog_1_method_25_code
def yX7_splitLead : MethodName := ⟨RX7, "splitLead", "(I)I"⟩
abbrev cX7_applySplit : ByteArray := prog_1_method_26_code
def yX7_applySplit : MethodName := ⟨RX7, "applySplit", "(I)I"⟩
abbrev cX7_equalNeighbours : ByteArray := prog_1_method_27_code
def yX7_equalNeighbours : MethodName := ⟨RX7, "equalNeighbours", "()I"⟩
abbrev cX7_colourCount : ByteArray := prog_1_method_28_code
def yX7_colourCount : MethodName := ⟨RX7, "colourCount", "(I)I"⟩
abbrev cX7_suggestedColour : ByteArray := prog_1_method_29_code
def yX7_suggestedColour : MethodName := ⟨RX7, "suggestedColour", "(II)I"⟩
abbrev cX7_bestOrder : ByteArray := prog_1_method_30_code
def yX7_bestOrder : MethodName := ⟨RX7, "bestOrder", "()I"⟩
abbrev cX7_largestClique : ByteArray := prog_1_method_31_code
def yX7_largestClique : MethodName := ⟨RX7, "largestClique", "()I"⟩
abbrev cX7_undo : ByteArray := prog_1_method_32_code
def yX7_undo : MethodName := ⟨RX7, "undo", "()I"⟩
abbrev cX7_flipCut : ByteArray := prog_1_method_33_code
def yX7_flipCut : MethodName := ⟨RX7, "flipCut", "(III)I"⟩
abbrev cX7_refresh : ByteArray := prog_1_method_34_code
def yX7_refresh : MethodName := ⟨RX7, "refresh", "()V"⟩
def RX8 : String := "GlassPlannerModel"
def TX8 : u_T := fun k => match k with
  | 0 => ("GlassPlannerModel", "now", "[I", true)
  | 1 => ("GlassPlannerModel", "past", "[I", true)
  | 2 => ("GlassPlannerModel", "edits", "I", false)
  | 3 => ("GlassPlannerModel", "text", "[I", true)
  | 4 => ("GlassPlannerModel", "typed", "I", false)
  | 5 => ("GlassPlannerModel", "readRows", "I", false)
  | 6 => ("GlassPlannerModel", "readColumns", "I", false)
  | 7 => ("GlassPlannerModel", "read", "[I", true)
  | 8 => ("GlassPlannerModel", "top", "I", false)
  | 9 => ("GlassPlannerModel", "bottom", "I", false)
  | 10 => ("GlassPlannerModel", "left", "I", false)
  | 11 => ("GlassPlannerModel", "right", "I", false)
  | 12 => ("GlassPlannerModel", "queue", "[I", true)
  | 13 => ("GlassPlannerModel", "panes", "I", false)
  | 14 => ("GlassPlannerModel", "pane", "[I", true)
  | 15 => ("GlassPlannerModel", "fragment", "[I", true)
  | 16 => ("GlassPlannerModel", "size", "[I", true)
  | 17 => ("GlassPlannerModel", "seen", "[Z", true)
  | 18 => ("GlassPlannerModel", "near", "[Z", true)
  | 19 => ("GlassPlannerModel", "nearMany", "[I", true)
  | 20 => ("GlassPlannerModel", "pieces", "[I", true)
  | 21 => ("GlassPlannerModel", "leads", "[I", true)
  | 22 => ("GlassPlannerModel", "line", "[I", true)
  | 23 => ("GlassPlannerModel", "waiting", "[I", true)
  | 24 => ("GlassPlannerModel", "sequence", "[I", true)
  | 25 => ("GlassPlannerModel", "isGone", "[Z", true)
  | _ => ("GlassPlannerModel", "number", "[I", true)
def tyX8 : Nat → FieldType := fun k => match k with
  | 0 => .array .int
  | 1 => .array .int
  | 2 => .int
  | 3 => .array .int
  | 4 => .int
  | 5 => .int
  | 6 => .int
  | 7 => .array .int
  | 8 => .int
  | 9 => .int
  | 10 => .int
  | 11 => .int
  | 12 => .array .int
  | 13 => .int
  | 14 => .array .int
  | 15 => .array .int
  | 16 => .array .int
  | 17 => .array .boolean
  | 18 => .array .boolean
  | 19 => .array .int
  | 20 => .array .int
  | 21 => .array .int
  | 22 => .array .int
  | 23 => .array .int
  | 24 => .array .int
  | 25 => .array .boolean
  | _ => .array .int
abbrev wsX80 : List Cond := u_ws RX8 TX8 27
theorem nmX8 : ∀ a, a < 27 → ∀ b, b < 27 → a ≠ b → (TX8 a).2.1 ≠ (TX8 b).2.1 := by decide +kernel
theorem tyX8_ok : ∀ k, k < 27 → parseFieldDescriptor (TX8 k).2.2.1 = some (tyX8 k) := by decide +kernel
abbrev cX8_init : ByteArray := prog_10_method_1_code
def yX8_init : MethodName := ⟨RX8, "<init>", "()V"⟩
abbrev cX8_in : ByteArray := prog_10_method_3_code
def yX8_in : MethodName := ⟨RX8, "in", "(III)Z"⟩
abbrev cX8_isCell : ByteArray := prog_10_method_4_code
def yX8_isCell : MethodName := ⟨RX8, "isCell", "(II)Z"⟩
abbrev cX8_save : ByteArray := prog_10_method_5_code
def yX8_save : MethodName := ⟨RX8, "save", "()V"⟩
abbrev cX8_undo : ByteArray := prog_10_method_6_code
def yX8_undo : MethodName := ⟨RX8, "undo", "()I"⟩
abbrev cX8_changed : ByteArray := prog_10_method_7_code
def yX8_changed : MethodName := ⟨RX8, "changed", "(II)I"⟩
abbrev cX8_appendCharacter : ByteArray := prog_10_method_8_code
def yX8_appendCharacter : MethodName := ⟨RX8, "appendCharacter", "(I)I"⟩
abbrev cX8_clearText : ByteArray := prog_10_method_9_code
def yX8_clearText : MethodName := ⟨RX8, "clearText", "()I"⟩
abbrev cX8_reads : ByteArray := prog_10_method_10_code
def yX8_reads : MethodName := ⟨RX8, "reads", "()I"⟩
abbrev cX8_loadDrawing : ByteArray := prog_10_method_11_code
def yX8_loadDrawing : MethodName := ⟨RX8, "loadDrawing", "()I"⟩
abbrev cX8_setColour : ByteArray := prog_10_method_12_code
def yX8_setColour : MethodName := ⟨RX8, "setColour", "(III)I"⟩
abbrev cX8_rows : ByteArray := prog_10_method_13_code
def yX8_rows : MethodName := ⟨RX8, "rows", "()I"⟩
abbrev cX8_columns : ByteArray := prog_10_method_14_code
def yX8_columns : MethodName := ⟨RX8, "columns", "()I"⟩
abbrev cX8_colourAt : ByteArray := prog_10_method_15_code
def yX8_colourAt : MethodName := ⟨RX8, "colourAt", "(II)I"⟩
abbrev cX8_hasNext : ByteArray := prog_10_method_16_code
def yX8_hasNext : MethodName := ⟨RX8, "hasNext", "(II)Z"⟩
abbrev cX8_step : ByteArray := prog_10_method_17_code
def yX8_step : MethodName := ⟨RX8, "step", "(I)I"⟩
abbrev cX8_joins : ByteArray := prog_10_method_18_code
def yX8_joins : MethodName := ⟨RX8, "joins", "(II)Z"⟩
abbrev cX8_isCut : ByteArray := prog_10_method_19_code
def yX8_isCut : MethodName := ⟨RX8, "isCut", "(III)Z"⟩
abbrev cX8_cuts : ByteArray := prog_10_method_20_code
def yX8_cuts : MethodName := ⟨RX8, "cuts", "()I"⟩
abbrev cX8_addCut : ByteArray := prog_10_method_21_code
def yX8_addCut : MethodName := ⟨RX8, "addCut", "(III)I"⟩
abbrev cX8_removeCut : ByteArray := prog_10_method_22_code
def yX8_removeCut : MethodName := ⟨RX8, "removeCut", "(III)I"⟩
abbrev cX8_spread : ByteArray := prog_10_method_23_code
def yX8_spread : MethodName := ⟨RX8, "spread", "([III)I"⟩
abbrev cX8_wholeDrawing : ByteArray := prog_10_method_24_code
def yX8_wholeDrawing : MethodName := ⟨RX8, "wholeDrawing", "()V"⟩
abbrev cX8_findPanes : ByteArray := prog_10_method_25_code
def yX8_findPanes : MethodName := ⟨RX8, "findPanes", "()V"⟩
abbrev cX8_isPane : ByteArray := prog_10_method_26_code
def yX8_isPane : MethodName := ⟨RX8, "isPane", "(I)Z"⟩
abbrev cX8_corners : ByteArray := prog_10_method_27_code
def yX8_corners : MethodName := ⟨RX8, "corners", "([II)I"⟩
abbrev cX8_isEdge : ByteArray := prog_10_method_28_code
def yX8_isEdge : MethodName := ⟨RX8, "isEdge", "(I)Z"⟩
abbrev cX8_isHole : ByteArray := prog_10_method_29_code
def yX8_isHole : MethodName := ⟨RX8, "isHole", "([III)Z"⟩
abbrev cX8_holesOf : ByteArray := prog_10_method_30_code
def yX8_holesOf : MethodName := ⟨RX8, "holesOf", "([II)I"⟩
abbrev cX8_isEasy : ByteArray := prog_10_method_31_code
def yX8_isEasy : MethodName := ⟨RX8, "isEasy", "([III)Z"⟩
abbrev cX8_canCut : ByteArray := prog_10_method_32_code
def yX8_canCut : MethodName := ⟨RX8, "canCut", "(I)Z"⟩
abbrev cX8_paneCount : ByteArray := prog_10_method_33_code
def yX8_paneCount : MethodName := ⟨RX8, "paneCount", "()I"⟩
abbrev cX8_paneAt : ByteArray := prog_10_method_34_code
def yX8_paneAt : MethodName := ⟨RX8, "paneAt", "(II)I"⟩
abbrev cX8_paneSize : ByteArray := prog_10_method_35_code
def yX8_paneSize : MethodName := ⟨RX8, "paneSize", "(I)I"⟩
abbrev cX8_innerCorners : ByteArray := prog_10_method_36_code
def yX8_innerCorners : MethodName := ⟨RX8, "innerCorners", "(I)I"⟩
abbrev cX8_holes : ByteArray := prog_10_method_37_code
def yX8_holes : MethodName := ⟨RX8, "holes", "(I)I"⟩
abbrev cX8_canBeCut : ByteArray := prog_10_method_38_code
def yX8_canBeCut : MethodName := ⟨RX8, "canBeCut", "(I)I"⟩
abbrev cX8_cuttableCount : ByteArray := prog_10_method_39_code
def yX8_cuttableCount : MethodName := ⟨RX8, "cuttableCount", "()I"⟩
abbrev cX8_isLoose : ByteArray := prog_10_method_40_code
def yX8_isLoose : MethodName := ⟨RX8, "isLoose", "(I)Z"⟩
abbrev cX8_looseCuts : ByteArray := prog_10_method_41_code
def yX8_looseCuts : MethodName := ⟨RX8, "looseCuts", "()I"⟩
abbrev cX8_removeLooseCuts : ByteArray := prog_10_method_42_code
def yX8_removeLooseCuts : MethodName := ⟨RX8, "removeLooseCuts", "()I"⟩
abbrev cX8_findNear : ByteArray := prog_10_method_43_code
def yX8_findNear : MethodName := ⟨RX8, "findNear", "()I"⟩
abbrev cX8_neighbourCount : ByteArray := prog_10_method_44_code
def yX8_neighbourCount : MethodName := ⟨RX8, "neighbourCount", "(I)I"⟩
abbrev cX8_leadLength : ByteArray := prog_10_method_45_code
def yX8_leadLength : MethodName := ⟨RX8, "leadLength", "()I"⟩
abbrev cX8_setCellLimit : ByteArray := prog_10_method_46_code
def yX8_setCellLimit : MethodName := ⟨RX8, "setCellLimit", "(I)I"⟩
abbrev cX8_setCornerLimit : ByteArray := prog_10_method_47_code
def yX8_setCornerLimit : MethodName := ⟨RX8, "setCornerLimit", "(I)I"⟩
abbrev cX8_box : ByteArray := prog_10_method_48_code
def yX8_box : MethodName := ⟨RX8, "box", "(IIII)I"⟩
abbrev cX8_easyMany : ByteArray := prog_10_method_49_code
def yX8_easyMany : MethodName := ⟨RX8, "easyMany", "(I)I"⟩
abbrev cX8_apartBelow : ByteArray := prog_10_method_50_code
def yX8_apartBelow : MethodName := ⟨RX8, "apartBelow", "(IIII)I"⟩
abbrev cX8_apartRight : ByteArray := prog_10_method_51_code
def yX8_apartRight : MethodName := ⟨RX8, "apartRight", "(IIII)I"⟩
abbrev cX8_tries : ByteArray := prog_10_method_52_code
def yX8_tries : MethodName := ⟨RX8, "tries", "(IIIII)V"⟩
abbrev cX8_layBox : ByteArray := prog_10_method_53_code
def yX8_layBox : MethodName := ⟨RX8, "layBox", "(I)V"⟩
abbrev cX8_layPlan : ByteArray := prog_10_method_54_code
def yX8_layPlan : MethodName := ⟨RX8, "layPlan", "(I)I"⟩
abbrev cX8_splitPieces : ByteArray := prog_10_method_55_code
def yX8_splitPieces : MethodName := ⟨RX8, "splitPieces", "(I)I"⟩
abbrev cX8_splitLead : ByteArray := prog_10_method_56_code
def yX8_splitLead : MethodName := ⟨RX8, "splitLead", "(I)I"⟩
abbrev cX8_cutBy : ByteArray := prog_10_method_57_code
def yX8_cutBy : MethodName := ⟨RX8, "cutBy", "(III)I"⟩
abbrev cX8_applySplit : ByteArray := prog_10_method_58_code
def yX8_applySplit : MethodName := ⟨RX8, "applySplit", "(I)I"⟩
abbrev cX8_equalNeighbours : ByteArray := prog_10_method_59_code
def yX8_equalNeighbours : MethodName := ⟨RX8, "equalNeighbours", "()I"⟩
abbrev cX8_firstOf : ByteArray := prog_10_method_60_code
def yX8_firstOf : MethodName := ⟨RX8, "firstOf", "(I)I"⟩
abbrev cX8_leftNear : ByteArray := prog_10_method_61_code
def yX8_leftNear : MethodName := ⟨RX8, "leftNear", "(I)I"⟩
abbrev cX8_nextPane : ByteArray := prog_10_method_62_code
def yX8_nextPane : MethodName := ⟨RX8, "nextPane", "(I)I"⟩
abbrev cX8_colourOne : ByteArray := prog_10_method_63_code
def yX8_colourOne : MethodName := ⟨RX8, "colourOne", "(I)V"⟩
abbrev cX8_colourAll : ByteArray := prog_10_method_64_code
def yX8_colourAll : MethodName := ⟨RX8, "colourAll", "(I)I"⟩
abbrev cX8_colourCount : ByteArray := prog_10_method_65_code
def yX8_colourCount : MethodName := ⟨RX8, "colourCount", "(I)I"⟩
abbrev cX8_suggestedColour : ByteArray := prog_10_method_66_code
def yX8_suggestedColour : MethodName := ⟨RX8, "suggestedColour", "(II)I"⟩
abbrev cX8_bestOrder : ByteArray := prog_10_method_67_code
def yX8_bestOrder : MethodName := ⟨RX8, "bestOrder", "()I"⟩
abbrev cX8_areNear : ByteArray := prog_10_method_68_code
def yX8_areNear : MethodName := ⟨RX8, "areNear", "(II)Z"⟩
abbrev cX8_largestClique : ByteArray := prog_10_method_69_code
def yX8_largestClique : MethodName := ⟨RX8, "largestClique", "()I"⟩
def RJ13 : String := "java/lang/Long"
def TJ13 : u_T := fun k => match k with
  | _ => ("", "", "", false)
def tyJ13 : Nat → FieldType := fun k => match k with
  | _ => .int
abbrev wsJ130 : List Cond := u_ws RJ13 TJ13 0
theorem nmJ13 : ∀ a, a < 0 → ∀ b, b < 0 → a ≠ b → (TJ13 a).2.1 ≠ (TJ13 b).2.1 := by decide +kernel
theorem tyJ13_ok : ∀ k, k < 0 → parseFieldDescriptor (TJ13 k).2.2.1 = some (tyJ13 k) := by decide +kernel
abbrev cJ13_bitCount_95d88 : ByteArray := prog_11_method_50_code
def yJ13_bitCount_95d88 : MethodName := ⟨RJ13, "bitCount", "(J)I"⟩
def RJ9 : String := "java/lang/Math"
def TJ9 : u_T := fun k => match k with
  | _ => ("", "", "", false)
def tyJ9 : Nat → FieldType := fun k => match k with
  | _ => .int
abbrev wsJ90 : List Cond := u_ws RJ9 TJ9 0
theorem nmJ9 : ∀ a, a < 0 → ∀ b, b < 0 → a ≠ b → (TJ9 a).2.1 ≠ (TJ9 b).2.1 := by decide +kernel
theorem tyJ9_ok : ∀ k, k < 0 → parseFieldDescriptor (TJ9 k).2.2.1 = some (tyJ9 k) := by decide +kernel
abbrev cJ9_max_7cf53 : ByteArray := prog_12_method_65_code
def yJ9_max_7cf53 : MethodName := ⟨RJ9, "max", "(II)I"⟩
abbrev cJ9_min_7cf53 : ByteArray := prog_12_method_69_code
def yJ9_min_7cf53 : MethodName := ⟨RJ9, "min", "(II)I"⟩
def RJ10 : String := "java/lang/System"
def TJ10 : u_T := fun k => match k with
  | _ => ("", "", "", false)
def tyJ10 : Nat → FieldType := fun k => match k with
  | _ => .int
abbrev wsJ100 : List Cond := u_ws RJ10 TJ10 0
theorem nmJ10 : ∀ a, a < 0 → ∀ b, b < 0 → a ≠ b → (TJ10 a).2.1 ≠ (TJ10 b).2.1 := by decide +kernel
theorem tyJ10_ok : ∀ k, k < 0 → parseFieldDescriptor (TJ10 k).2.2.1 = some (tyJ10 k) := by decide +kernel
def RL : String := "GlassPlannerLaw"
abbrev cL_law : ByteArray := code
def yL_law : MethodName := ⟨RL, "law", "([I)Z"⟩
abbrev vwCl : List vw_C := [(RX1, TX1, 3), (RX2, TX2, 7), (RX3, TX3, 3), (RX4, TX4, 7), (RX5, TX5, 9), (RX6, TX6, 2), (RX7, TX7, 6), (RX8, TX8, 27)]
end
section
theorem dX0_number_0 : decode cX0_number 0 = .ok (.iload_n 0, 1) := by decide +kernel
theorem dX0_number_1 : decode cX0_number 1 = .ok (.bipush 8, 2) := by decide +kernel
theorem dX0_number_3 : decode cX0_number 3 = .ok (.imul, 1) := by decide +kernel
theorem dX0_number_4 : decode cX0_number 4 = .ok (.iload_n 1, 1) := by decide +kernel
theorem dX0_number_5 : decode cX0_number 5 = .ok (.iadd, 1) := by decide +kernel
theorem dX0_number_6 : decode cX0_number 6 = .ok (.ireturn, 1) := by decide +kernel
theorem dX0_only_0 : decode cX0_only 0 = .ok (.lconst 1, 1) := by decide +kernel
theorem dX0_only_1 : decode cX0_only 1 = .ok (.iload_n 0, 1) := by decide +kernel
theorem dX0_only_2 : decode cX0_only 2 = .ok (.iload_n 1, 1) := by decide +kernel
theorem dX0_only_3 : decode cX0_only 3 = .ok (.invokestatic 9, 3) := by decide +kernel
theorem dX0_only_6 : decode cX0_only 6 = .ok (.lshl, 1) := by decide +kernel
theorem dX0_only_7 : decode cX0_only 7 = .ok (.lreturn, 1) := by decide +kernel
theorem dX0_inRow_0 : decode cX0_inRow 0 = .ok (.ldc2_w 13, 3) := by decide +kernel
theorem dX0_inRow_3 : decode cX0_inRow 3 = .ok (.iload_n 0, 1) := by decide +kernel
theorem dX0_inRow_4 : decode cX0_inRow 4 = .ok (.bipush 8, 2) := by decide +kernel
theorem dX0_inRow_6 : decode cX0_inRow 6 = .ok (.imul, 1) := by decide +kernel
theorem dX0_inRow_7 : decode cX0_inRow 7 = .ok (.lshl, 1) := by decide +kernel
theorem dX0_inRow_8 : decode cX0_inRow 8 = .ok (.lreturn, 1) := by decide +kernel
theorem dX0_inColumn_0 : decode cX0_inColumn 0 = .ok (.ldc2_w 15, 3) := by decide +kernel
theorem dX0_inColumn_3 : decode cX0_inColumn 3 = .ok (.iload_n 0, 1) := by decide +kernel
theorem dX0_inColumn_4 : decode cX0_inColumn 4 = .ok (.lshl, 1) := by decide +kernel
theorem dX0_inColumn_5 : decode cX0_inColumn 5 = .ok (.lreturn, 1) := by decide +kernel
theorem dX0_block_0 : decode cX0_block 0 = .ok (.lconst 1, 1) := by decide +kernel
theorem dX0_block_1 : decode cX0_block 1 = .ok (.iload_n 3, 1) := by decide +kernel
theorem dX0_block_2 : decode cX0_block 2 = .ok (.iload_n 2, 1) := by decide +kernel
theorem dX0_block_3 : decode cX0_block 3 = .ok (.isub, 1) := by decide +kernel
theorem dX0_block_4 : decode cX0_block 4 = .ok (.iconst 1, 1) := by decide +kernel
theorem dX0_block_5 : decode cX0_block 5 = .ok (.iadd, 1) := by decide +kernel
theorem dX0_block_6 : decode cX0_block 6 = .ok (.lshl, 1) := by decide +kernel
theorem dX0_block_7 : decode cX0_block 7 = .ok (.lconst 1, 1) := by decide +kernel
theorem dX0_block_8 : decode cX0_block 8 = .ok (.lsub, 1) := by decide +kernel
theorem dX0_block_9 : decode cX0_block 9 = .ok (.iload_n 2, 1) := by decide +kernel
theorem dX0_block_10 : decode cX0_block 10 = .ok (.lshl, 1) := by decide +kernel
theorem dX0_block_11 : decode cX0_block 11 = .ok (.lstore 4, 2) := by decide +kernel
theorem dX0_block_13 : decode cX0_block 13 = .ok (.lconst 0, 1) := by decide +kernel
theorem dX0_block_14 : decode cX0_block 14 = .ok (.lstore 6, 2) := by decide +kernel
theorem dX0_block_16 : decode cX0_block 16 = .ok (.iload_n 0, 1) := by decide +kernel
theorem dX0_block_17 : decode cX0_block 17 = .ok (.istore 8, 2) := by decide +kernel
theorem dX0_block_19 : decode cX0_block 19 = .ok (.iload 8, 2) := by decide +kernel
theorem dX0_block_21 : decode cX0_block 21 = .ok (.iload_n 1, 1) := by decide +kernel
theorem dX0_block_22 : decode cX0_block 22 = .ok (.if_icmp .gt 22, 3) := by decide +kernel
theorem dX0_block_25 : decode cX0_block 25 = .ok (.lload 6, 2) := by decide +kernel
theorem dX0_block_27 : decode cX0_block 27 = .ok (.lload 4, 2) := by decide +kernel
theorem dX0_block_29 : decode cX0_block 29 = .ok (.iload 8, 2) := by decide +kernel
theorem dX0_block_31 : decode cX0_block 31 = .ok (.bipush 8, 2) := by decide +kernel
theorem dX0_block_33 : decode cX0_block 33 = .ok (.imul, 1) := by decide +kernel
theorem dX0_block_34 : decode cX0_block 34 = .ok (.lshl, 1) := by decide +kernel
theorem dX0_block_35 : decode cX0_block 35 = .ok (.lor, 1) := by decide +kernel
theorem dX0_block_36 : decode cX0_block 36 = .ok (.lstore 6, 2) := by decide +kernel
theorem dX0_block_38 : decode cX0_block 38 = .ok (.iinc 8 1, 3) := by decide +kernel
theorem dX0_block_41 : decode cX0_block 41 = .ok (.goto (-22), 3) := by decide +kernel
theorem dX0_block_44 : decode cX0_block 44 = .ok (.lload 6, 2) := by decide +kernel
theorem dX0_block_46 : decode cX0_block 46 = .ok (.lreturn, 1) := by decide +kernel
theorem dX0_first_0 : decode cX0_first 0 = .ok (.lload_n 0, 1) := by decide +kernel
theorem dX0_first_1 : decode cX0_first 1 = .ok (.lload_n 0, 1) := by decide +kernel
theorem dX0_first_2 : decode cX0_first 2 = .ok (.lneg, 1) := by decide +kernel
theorem dX0_first_3 : decode cX0_first 3 = .ok (.land, 1) := by decide +kernel
theorem dX0_first_4 : decode cX0_first 4 = .ok (.lreturn, 1) := by decide +kernel
theorem dX0_numberOfFirst_0 : decode cX0_numberOfFirst 0 = .ok (.lload_n 0, 1) := by decide +kernel
theorem dX0_numberOfFirst_1 : decode cX0_numberOfFirst 1 = .ok (.invokestatic 17, 3) := by decide +kernel
theorem dX0_numberOfFirst_4 : decode cX0_numberOfFirst 4 = .ok (.lconst 1, 1) := by decide +kernel
theorem dX0_numberOfFirst_5 : decode cX0_numberOfFirst 5 = .ok (.lsub, 1) := by decide +kernel
theorem dX0_numberOfFirst_6 : decode cX0_numberOfFirst 6 = .ok (.invokestatic 21, 3) := by decide +kernel
theorem dX0_numberOfFirst_9 : decode cX0_numberOfFirst 9 = .ok (.ireturn, 1) := by decide +kernel
theorem dX0_pairsRight_0 : decode cX0_pairsRight 0 = .ok (.lload_n 0, 1) := by decide +kernel
theorem dX0_pairsRight_1 : decode cX0_pairsRight 1 = .ok (.lload_n 0, 1) := by decide +kernel
theorem dX0_pairsRight_2 : decode cX0_pairsRight 2 = .ok (.iconst 1, 1) := by decide +kernel
theorem dX0_pairsRight_3 : decode cX0_pairsRight 3 = .ok (.lushr, 1) := by decide +kernel
theorem dX0_pairsRight_4 : decode cX0_pairsRight 4 = .ok (.land, 1) := by decide +kernel
theorem dX0_pairsRight_5 : decode cX0_pairsRight 5 = .ok (.lreturn, 1) := by decide +kernel
theorem dX0_pairsBelow_0 : decode cX0_pairsBelow 0 = .ok (.lload_n 0, 1) := by decide +kernel
theorem dX0_pairsBelow_1 : decode cX0_pairsBelow 1 = .ok (.lload_n 0, 1) := by decide +kernel
theorem dX0_pairsBelow_2 : decode cX0_pairsBelow 2 = .ok (.bipush 8, 2) := by decide +kernel
theorem dX0_pairsBelow_4 : decode cX0_pairsBelow 4 = .ok (.lushr, 1) := by decide +kernel
theorem dX0_pairsBelow_5 : decode cX0_pairsBelow 5 = .ok (.land, 1) := by decide +kernel
theorem dX0_pairsBelow_6 : decode cX0_pairsBelow 6 = .ok (.lreturn, 1) := by decide +kernel
theorem dX0_countPairs_0 : decode cX0_countPairs 0 = .ok (.lload_n 0, 1) := by decide +kernel
theorem dX0_countPairs_1 : decode cX0_countPairs 1 = .ok (.invokestatic 27, 3) := by decide +kernel
theorem dX0_countPairs_4 : decode cX0_countPairs 4 = .ok (.invokestatic 21, 3) := by decide +kernel
theorem dX0_countPairs_7 : decode cX0_countPairs 7 = .ok (.lload_n 0, 1) := by decide +kernel
theorem dX0_countPairs_8 : decode cX0_countPairs 8 = .ok (.invokestatic 30, 3) := by decide +kernel
theorem dX0_countPairs_11 : decode cX0_countPairs 11 = .ok (.invokestatic 21, 3) := by decide +kernel
theorem dX0_countPairs_14 : decode cX0_countPairs 14 = .ok (.iadd, 1) := by decide +kernel
theorem dX0_countPairs_15 : decode cX0_countPairs 15 = .ok (.ireturn, 1) := by decide +kernel
theorem dX0_beside_0 : decode cX0_beside 0 = .ok (.lload_n 0, 1) := by decide +kernel
theorem dX0_beside_1 : decode cX0_beside 1 = .ok (.iconst 1, 1) := by decide +kernel
theorem dX0_beside_2 : decode cX0_beside 2 = .ok (.lshl, 1) := by decide +kernel
theorem dX0_beside_3 : decode cX0_beside 3 = .ok (.lload_n 0, 1) := by decide +kernel
theorem dX0_beside_4 : decode cX0_beside 4 = .ok (.iconst 1, 1) := by decide +kernel
theorem dX0_beside_5 : decode cX0_beside 5 = .ok (.lushr, 1) := by decide +kernel
theorem dX0_beside_6 : decode cX0_beside 6 = .ok (.lor, 1) := by decide +kernel
theorem dX0_beside_7 : decode cX0_beside 7 = .ok (.lload_n 0, 1) := by decide +kernel
theorem dX0_beside_8 : decode cX0_beside 8 = .ok (.bipush 8, 2) := by decide +kernel
theorem dX0_beside_10 : decode cX0_beside 10 = .ok (.lshl, 1) := by decide +kernel
theorem dX0_beside_11 : decode cX0_beside 11 = .ok (.lor, 1) := by decide +kernel
theorem dX0_beside_12 : decode cX0_beside 12 = .ok (.lload_n 0, 1) := by decide +kernel
theorem dX0_beside_13 : decode cX0_beside 13 = .ok (.bipush 8, 2) := by decide +kernel
theorem dX0_beside_15 : decode cX0_beside 15 = .ok (.lushr, 1) := by decide +kernel
theorem dX0_beside_16 : decode cX0_beside 16 = .ok (.lor, 1) := by decide +kernel
theorem dX0_beside_17 : decode cX0_beside 17 = .ok (.lreturn, 1) := by decide +kernel
theorem dX0_countInnerCorners_0 : decode cX0_countInnerCorners 0 = .ok (.lload_n 0, 1) := by decide +kernel
theorem dX0_countInnerCorners_1 : decode cX0_countInnerCorners 1 = .ok (.iconst 1, 1) := by decide +kernel
theorem dX0_countInnerCorners_2 : decode cX0_countInnerCorners 2 = .ok (.lushr, 1) := by decide +kernel
theorem dX0_countInnerCorners_3 : decode cX0_countInnerCorners 3 = .ok (.lstore_n 2, 1) := by decide +kernel
theorem dX0_countInnerCorners_4 : decode cX0_countInnerCorners 4 = .ok (.lload_n 0, 1) := by decide +kernel
theorem dX0_countInnerCorners_5 : decode cX0_countInnerCorners 5 = .ok (.bipush 8, 2) := by decide +kernel
theorem dX0_countInnerCorners_7 : decode cX0_countInnerCorners 7 = .ok (.lushr, 1) := by decide +kernel
theorem dX0_countInnerCorners_8 : decode cX0_countInnerCorners 8 = .ok (.lstore 4, 2) := by decide +kernel
theorem dX0_countInnerCorners_10 : decode cX0_countInnerCorners 10 = .ok (.lload_n 0, 1) := by decide +kernel
theorem dX0_countInnerCorners_11 : decode cX0_countInnerCorners 11 = .ok (.bipush 9, 2) := by decide +kernel
theorem dX0_countInnerCorners_13 : decode cX0_countInnerCorners 13 = .ok (.lushr, 1) := by decide +kernel
theorem dX0_countInnerCorners_14 : decode cX0_countInnerCorners 14 = .ok (.lstore 6, 2) := by decide +kernel
theorem dX0_countInnerCorners_16 : decode cX0_countInnerCorners 16 = .ok (.lload_n 0, 1) := by decide +kernel
theorem dX0_countInnerCorners_17 : decode cX0_countInnerCorners 17 = .ok (.lload_n 2, 1) := by decide +kernel
theorem dX0_countInnerCorners_18 : decode cX0_countInnerCorners 18 = .ok (.land, 1) := by decide +kernel
theorem dX0_countInnerCorners_19 : decode cX0_countInnerCorners 19 = .ok (.lload 4, 2) := by decide +kernel
theorem dX0_countInnerCorners_21 : decode cX0_countInnerCorners 21 = .ok (.lload 6, 2) := by decide +kernel
theorem dX0_countInnerCorners_23 : decode cX0_countInnerCorners 23 = .ok (.lxor, 1) := by decide +kernel
theorem dX0_countInnerCorners_24 : decode cX0_countInnerCorners 24 = .ok (.land, 1) := by decide +kernel
theorem dX0_countInnerCorners_25 : decode cX0_countInnerCorners 25 = .ok (.lstore 8, 2) := by decide +kernel
theorem dX0_countInnerCorners_27 : decode cX0_countInnerCorners 27 = .ok (.lload_n 0, 1) := by decide +kernel
theorem dX0_countInnerCorners_28 : decode cX0_countInnerCorners 28 = .ok (.lload_n 2, 1) := by decide +kernel
theorem dX0_countInnerCorners_29 : decode cX0_countInnerCorners 29 = .ok (.lxor, 1) := by decide +kernel
theorem dX0_countInnerCorners_30 : decode cX0_countInnerCorners 30 = .ok (.lload 4, 2) := by decide +kernel
theorem dX0_countInnerCorners_32 : decode cX0_countInnerCorners 32 = .ok (.land, 1) := by decide +kernel
theorem dX0_countInnerCorners_33 : decode cX0_countInnerCorners 33 = .ok (.lload 6, 2) := by decide +kernel
theorem dX0_countInnerCorners_35 : decode cX0_countInnerCorners 35 = .ok (.land, 1) := by decide +kernel
theorem dX0_countInnerCorners_36 : decode cX0_countInnerCorners 36 = .ok (.lstore 10, 2) := by decide +kernel
theorem dX0_countInnerCorners_38 : decode cX0_countInnerCorners 38 = .ok (.lload 8, 2) := by decide +kernel
theorem dX0_countInnerCorners_40 : decode cX0_countInnerCorners 40 = .ok (.lload 10, 2) := by decide +kernel
theorem dX0_countInnerCorners_42 : decode cX0_countInnerCorners 42 = .ok (.lor, 1) := by decide +kernel
theorem dX0_countInnerCorners_43 : decode cX0_countInnerCorners 43 = .ok (.invokestatic 21, 3) := by decide +kernel
theorem dX0_countInnerCorners_46 : decode cX0_countInnerCorners 46 = .ok (.ireturn, 1) := by decide +kernel
theorem dX0_countHoles_0 : decode cX0_countHoles 0 = .ok (.lload_n 2, 1) := by decide +kernel
theorem dX0_countHoles_1 : decode cX0_countHoles 1 = .ok (.lload_n 0, 1) := by decide +kernel
theorem dX0_countHoles_2 : decode cX0_countHoles 2 = .ok (.ldc2_w 33, 3) := by decide +kernel
theorem dX0_countHoles_5 : decode cX0_countHoles 5 = .ok (.lxor, 1) := by decide +kernel
theorem dX0_countHoles_6 : decode cX0_countHoles 6 = .ok (.land, 1) := by decide +kernel
theorem dX0_countHoles_7 : decode cX0_countHoles 7 = .ok (.lstore 4, 2) := by decide +kernel
theorem dX0_countHoles_9 : decode cX0_countHoles 9 = .ok (.lload_n 2, 1) := by decide +kernel
theorem dX0_countHoles_10 : decode cX0_countHoles 10 = .ok (.lload_n 2, 1) := by decide +kernel
theorem dX0_countHoles_11 : decode cX0_countHoles 11 = .ok (.iconst 1, 1) := by decide +kernel
theorem dX0_countHoles_12 : decode cX0_countHoles 12 = .ok (.lshl, 1) := by decide +kernel
theorem dX0_countHoles_13 : decode cX0_countHoles 13 = .ok (.land, 1) := by decide +kernel
theorem dX0_countHoles_14 : decode cX0_countHoles 14 = .ok (.lload_n 2, 1) := by decide +kernel
theorem dX0_countHoles_15 : decode cX0_countHoles 15 = .ok (.iconst 1, 1) := by decide +kernel
theorem dX0_countHoles_16 : decode cX0_countHoles 16 = .ok (.lushr, 1) := by decide +kernel
theorem dX0_countHoles_17 : decode cX0_countHoles 17 = .ok (.land, 1) := by decide +kernel
theorem dX0_countHoles_18 : decode cX0_countHoles 18 = .ok (.lload_n 2, 1) := by decide +kernel
theorem dX0_countHoles_19 : decode cX0_countHoles 19 = .ok (.bipush 8, 2) := by decide +kernel
theorem dX0_countHoles_21 : decode cX0_countHoles 21 = .ok (.lshl, 1) := by decide +kernel
theorem dX0_countHoles_22 : decode cX0_countHoles 22 = .ok (.land, 1) := by decide +kernel
theorem dX0_countHoles_23 : decode cX0_countHoles 23 = .ok (.lload_n 2, 1) := by decide +kernel
theorem dX0_countHoles_24 : decode cX0_countHoles 24 = .ok (.bipush 8, 2) := by decide +kernel
theorem dX0_countHoles_26 : decode cX0_countHoles 26 = .ok (.lushr, 1) := by decide +kernel
theorem dX0_countHoles_27 : decode cX0_countHoles 27 = .ok (.land, 1) := by decide +kernel
theorem dX0_countHoles_28 : decode cX0_countHoles 28 = .ok (.lstore 6, 2) := by decide +kernel
theorem dX0_countHoles_30 : decode cX0_countHoles 30 = .ok (.lload 4, 2) := by decide +kernel
theorem dX0_countHoles_32 : decode cX0_countHoles 32 = .ok (.lload 4, 2) := by decide +kernel
theorem dX0_countHoles_34 : decode cX0_countHoles 34 = .ok (.lload 6, 2) := by decide +kernel
theorem dX0_countHoles_36 : decode cX0_countHoles 36 = .ok (.ldc2_w 33, 3) := by decide +kernel
theorem dX0_countHoles_39 : decode cX0_countHoles 39 = .ok (.lxor, 1) := by decide +kernel
theorem dX0_countHoles_40 : decode cX0_countHoles 40 = .ok (.land, 1) := by decide +kernel
theorem dX0_countHoles_41 : decode cX0_countHoles 41 = .ok (.lload 4, 2) := by decide +kernel
theorem dX0_countHoles_43 : decode cX0_countHoles 43 = .ok (.invokestatic 35, 3) := by decide +kernel
theorem dX0_countHoles_46 : decode cX0_countHoles 46 = .ok (.ldc2_w 33, 3) := by decide +kernel
theorem dX0_countHoles_49 : decode cX0_countHoles 49 = .ok (.lxor, 1) := by decide +kernel
theorem dX0_countHoles_50 : decode cX0_countHoles 50 = .ok (.land, 1) := by decide +kernel
theorem dX0_countHoles_51 : decode cX0_countHoles 51 = .ok (.lstore 8, 2) := by decide +kernel
theorem dX0_countHoles_53 : decode cX0_countHoles 53 = .ok (.iconst 0, 1) := by decide +kernel
theorem dX0_countHoles_54 : decode cX0_countHoles 54 = .ok (.istore 10, 2) := by decide +kernel
theorem dX0_countHoles_56 : decode cX0_countHoles 56 = .ok (.iconst 0, 1) := by decide +kernel
theorem dX0_countHoles_57 : decode cX0_countHoles 57 = .ok (.istore 11, 2) := by decide +kernel
theorem dX0_countHoles_59 : decode cX0_countHoles 59 = .ok (.iload 11, 2) := by decide +kernel
theorem dX0_countHoles_61 : decode cX0_countHoles 61 = .ok (.bipush 49, 2) := by decide +kernel
theorem dX0_countHoles_63 : decode cX0_countHoles 63 = .ok (.if_icmp .ge 38, 3) := by decide +kernel
theorem dX0_countHoles_66 : decode cX0_countHoles 66 = .ok (.lload 8, 2) := by decide +kernel
theorem dX0_countHoles_68 : decode cX0_countHoles 68 = .ok (.lconst 0, 1) := by decide +kernel
theorem dX0_countHoles_69 : decode cX0_countHoles 69 = .ok (.lcmp, 1) := by decide +kernel
theorem dX0_countHoles_70 : decode cX0_countHoles 70 = .ok (.ifCond .eq 31, 3) := by decide +kernel
theorem dX0_countHoles_73 : decode cX0_countHoles 73 = .ok (.lload 8, 2) := by decide +kernel
theorem dX0_countHoles_75 : decode cX0_countHoles 75 = .ok (.lload 8, 2) := by decide +kernel
theorem dX0_countHoles_77 : decode cX0_countHoles 77 = .ok (.invokestatic 17, 3) := by decide +kernel
theorem dX0_countHoles_80 : decode cX0_countHoles 80 = .ok (.lload 8, 2) := by decide +kernel
theorem dX0_countHoles_82 : decode cX0_countHoles 82 = .ok (.invokestatic 35, 3) := by decide +kernel
theorem dX0_countHoles_85 : decode cX0_countHoles 85 = .ok (.ldc2_w 33, 3) := by decide +kernel
theorem dX0_countHoles_88 : decode cX0_countHoles 88 = .ok (.lxor, 1) := by decide +kernel
theorem dX0_countHoles_89 : decode cX0_countHoles 89 = .ok (.land, 1) := by decide +kernel
theorem dX0_countHoles_90 : decode cX0_countHoles 90 = .ok (.lstore 8, 2) := by decide +kernel
theorem dX0_countHoles_92 : decode cX0_countHoles 92 = .ok (.iinc 10 1, 3) := by decide +kernel
theorem dX0_countHoles_95 : decode cX0_countHoles 95 = .ok (.iinc 11 1, 3) := by decide +kernel
theorem dX0_countHoles_98 : decode cX0_countHoles 98 = .ok (.goto (-39), 3) := by decide +kernel
theorem dX0_countHoles_101 : decode cX0_countHoles 101 = .ok (.iload 10, 2) := by decide +kernel
theorem dX0_countHoles_103 : decode cX0_countHoles 103 = .ok (.ireturn, 1) := by decide +kernel
theorem dX0_connected_0 : decode cX0_connected 0 = .ok (.lload_n 0, 1) := by decide +kernel
theorem dX0_connected_1 : decode cX0_connected 1 = .ok (.lstore 4, 2) := by decide +kernel
theorem dX0_connected_3 : decode cX0_connected 3 = .ok (.iconst 0, 1) := by decide +kernel
theorem dX0_connected_4 : decode cX0_connected 4 = .ok (.istore 6, 2) := by decide +kernel
theorem dX0_connected_6 : decode cX0_connected 6 = .ok (.iload 6, 2) := by decide +kernel
theorem dX0_connected_8 : decode cX0_connected 8 = .ok (.bipush 49, 2) := by decide +kernel
theorem dX0_connected_10 : decode cX0_connected 10 = .ok (.if_icmp .ge 56, 3) := by decide +kernel
theorem dX0_connected_13 : decode cX0_connected 13 = .ok (.lload 4, 2) := by decide +kernel
theorem dX0_connected_15 : decode cX0_connected 15 = .ok (.lload 4, 2) := by decide +kernel
theorem dX0_connected_17 : decode cX0_connected 17 = .ok (.iconst 1, 1) := by decide +kernel
theorem dX0_connected_18 : decode cX0_connected 18 = .ok (.lshl, 1) := by decide +kernel
theorem dX0_connected_19 : decode cX0_connected 19 = .ok (.lor, 1) := by decide +kernel
theorem dX0_connected_20 : decode cX0_connected 20 = .ok (.lload 4, 2) := by decide +kernel
theorem dX0_connected_22 : decode cX0_connected 22 = .ok (.iconst 1, 1) := by decide +kernel
theorem dX0_connected_23 : decode cX0_connected 23 = .ok (.lushr, 1) := by decide +kernel
theorem dX0_connected_24 : decode cX0_connected 24 = .ok (.lor, 1) := by decide +kernel
theorem dX0_connected_25 : decode cX0_connected 25 = .ok (.lstore 7, 2) := by decide +kernel
theorem dX0_connected_27 : decode cX0_connected 27 = .ok (.lload 7, 2) := by decide +kernel
theorem dX0_connected_29 : decode cX0_connected 29 = .ok (.lload 7, 2) := by decide +kernel
theorem dX0_connected_31 : decode cX0_connected 31 = .ok (.bipush 8, 2) := by decide +kernel
theorem dX0_connected_33 : decode cX0_connected 33 = .ok (.lshl, 1) := by decide +kernel
theorem dX0_connected_34 : decode cX0_connected 34 = .ok (.lor, 1) := by decide +kernel
theorem dX0_connected_35 : decode cX0_connected 35 = .ok (.lload 7, 2) := by decide +kernel
theorem dX0_connected_37 : decode cX0_connected 37 = .ok (.bipush 8, 2) := by decide +kernel
theorem dX0_connected_39 : decode cX0_connected 39 = .ok (.lushr, 1) := by decide +kernel
theorem dX0_connected_40 : decode cX0_connected 40 = .ok (.lor, 1) := by decide +kernel
theorem dX0_connected_41 : decode cX0_connected 41 = .ok (.lload_n 2, 1) := by decide +kernel
theorem dX0_connected_42 : decode cX0_connected 42 = .ok (.land, 1) := by decide +kernel
theorem dX0_connected_43 : decode cX0_connected 43 = .ok (.lstore 9, 2) := by decide +kernel
theorem dX0_connected_45 : decode cX0_connected 45 = .ok (.lload 9, 2) := by decide +kernel
theorem dX0_connected_47 : decode cX0_connected 47 = .ok (.lload 4, 2) := by decide +kernel
theorem dX0_connected_49 : decode cX0_connected 49 = .ok (.lcmp, 1) := by decide +kernel
theorem dX0_connected_50 : decode cX0_connected 50 = .ok (.ifCond .ne 6, 3) := by decide +kernel
theorem dX0_connected_53 : decode cX0_connected 53 = .ok (.goto 13, 3) := by decide +kernel
theorem dX0_connected_56 : decode cX0_connected 56 = .ok (.lload 9, 2) := by decide +kernel
theorem dX0_connected_58 : decode cX0_connected 58 = .ok (.lstore 4, 2) := by decide +kernel
theorem dX0_connected_60 : decode cX0_connected 60 = .ok (.iinc 6 1, 3) := by decide +kernel
theorem dX0_connected_63 : decode cX0_connected 63 = .ok (.goto (-57), 3) := by decide +kernel
theorem dX0_connected_66 : decode cX0_connected 66 = .ok (.lload 4, 2) := by decide +kernel
theorem dX0_connected_68 : decode cX0_connected 68 = .ok (.lreturn, 1) := by decide +kernel
theorem dX1_init_0 : decode cX1_init 0 = .ok (.aload_n 0, 1) := by decide +kernel
theorem dX1_init_1 : decode cX1_init 1 = .ok (.invokespecial 1, 3) := by decide +kernel
theorem dX1_init_4 : decode cX1_init 4 = .ok (.aload_n 0, 1) := by decide +kernel
theorem dX1_init_5 : decode cX1_init 5 = .ok (.bipush 49, 2) := by decide +kernel
theorem dX1_init_7 : decode cX1_init 7 = .ok (.newarray .int, 2) := by decide +kernel
theorem dX1_init_9 : decode cX1_init 9 = .ok (.putfield 9, 3) := by decide +kernel
theorem dX1_init_12 : decode cX1_init 12 = .ok (.aload_n 0, 1) := by decide +kernel
theorem dX1_init_13 : decode cX1_init 13 = .ok (.bipush 49, 2) := by decide +kernel
theorem dX1_init_15 : decode cX1_init 15 = .ok (.newarray .int, 2) := by decide +kernel
theorem dX1_init_17 : decode cX1_init 17 = .ok (.putfield 15, 3) := by decide +kernel
theorem dX1_init_20 : decode cX1_init 20 = .ok (.aload_n 0, 1) := by decide +kernel
theorem dX1_init_21 : decode cX1_init 21 = .ok (.aload_n 1, 1) := by decide +kernel
theorem dX1_init_22 : decode cX1_init 22 = .ok (.putfield 18, 3) := by decide +kernel
theorem dX1_init_25 : decode cX1_init 25 = .ok (.return_, 1) := by decide +kernel
theorem dX1_hasOrder_0 : decode cX1_hasOrder 0 = .ok (.iload_n 1, 1) := by decide +kernel
theorem dX1_hasOrder_1 : decode cX1_hasOrder 1 = .ok (.ifCond .lt 12, 3) := by decide +kernel
theorem dX1_hasOrder_4 : decode cX1_hasOrder 4 = .ok (.iload_n 1, 1) := by decide +kernel
theorem dX1_hasOrder_5 : decode cX1_hasOrder 5 = .ok (.iconst 3, 1) := by decide +kernel
theorem dX1_hasOrder_6 : decode cX1_hasOrder 6 = .ok (.if_icmp .ge 7, 3) := by decide +kernel
theorem dX1_hasOrder_9 : decode cX1_hasOrder 9 = .ok (.iconst 1, 1) := by decide +kernel
theorem dX1_hasOrder_10 : decode cX1_hasOrder 10 = .ok (.goto 4, 3) := by decide +kernel
theorem dX1_hasOrder_13 : decode cX1_hasOrder 13 = .ok (.iconst 0, 1) := by decide +kernel
theorem dX1_hasOrder_14 : decode cX1_hasOrder 14 = .ok (.ireturn, 1) := by decide +kernel
theorem dX1_paint_0 : decode cX1_paint 0 = .ok (.iload_n 1, 1) := by decide +kernel
theorem dX1_paint_1 : decode cX1_paint 1 = .ok (.ifCond .ne 10, 3) := by decide +kernel
theorem dX1_paint_4 : decode cX1_paint 4 = .ok (.aload_n 0, 1) := by decide +kernel
theorem dX1_paint_5 : decode cX1_paint 5 = .ok (.invokevirtual 22, 3) := by decide +kernel
theorem dX1_paint_8 : decode cX1_paint 8 = .ok (.goto 19, 3) := by decide +kernel
theorem dX1_paint_11 : decode cX1_paint 11 = .ok (.iload_n 1, 1) := by decide +kernel
theorem dX1_paint_12 : decode cX1_paint 12 = .ok (.iconst 1, 1) := by decide +kernel
theorem dX1_paint_13 : decode cX1_paint 13 = .ok (.if_icmp .ne 10, 3) := by decide +kernel
theorem dX1_paint_16 : decode cX1_paint 16 = .ok (.aload_n 0, 1) := by decide +kernel
theorem dX1_paint_17 : decode cX1_paint 17 = .ok (.invokevirtual 25, 3) := by decide +kernel
theorem dX1_paint_20 : decode cX1_paint 20 = .ok (.goto 7, 3) := by decide +kernel
theorem dX1_paint_23 : decode cX1_paint 23 = .ok (.aload_n 0, 1) := by decide +kernel
theorem dX1_paint_24 : decode cX1_paint 24 = .ok (.invokevirtual 28, 3) := by decide +kernel
theorem dX1_paint_27 : decode cX1_paint 27 = .ok (.iconst 0, 1) := by decide +kernel
theorem dX1_paint_28 : decode cX1_paint 28 = .ok (.istore_n 2, 1) := by decide +kernel
theorem dX1_paint_29 : decode cX1_paint 29 = .ok (.iload_n 2, 1) := by decide +kernel
theorem dX1_paint_30 : decode cX1_paint 30 = .ok (.aload_n 0, 1) := by decide +kernel
theorem dX1_paint_31 : decode cX1_paint 31 = .ok (.getfield 18, 3) := by decide +kernel
theorem dX1_paint_34 : decode cX1_paint 34 = .ok (.getfield 31, 3) := by decide +kernel
theorem dX1_paint_37 : decode cX1_paint 37 = .ok (.if_icmp .ge 16, 3) := by decide +kernel
theorem dX1_paint_40 : decode cX1_paint 40 = .ok (.aload_n 0, 1) := by decide +kernel
theorem dX1_paint_41 : decode cX1_paint 41 = .ok (.getfield 15, 3) := by decide +kernel
theorem dX1_paint_44 : decode cX1_paint 44 = .ok (.iload_n 2, 1) := by decide +kernel
theorem dX1_paint_45 : decode cX1_paint 45 = .ok (.iconst (-1), 1) := by decide +kernel
theorem dX1_paint_46 : decode cX1_paint 46 = .ok (.iastore, 1) := by decide +kernel
theorem dX1_paint_47 : decode cX1_paint 47 = .ok (.iinc 2 1, 3) := by decide +kernel
theorem dX1_paint_50 : decode cX1_paint 50 = .ok (.goto (-21), 3) := by decide +kernel
theorem dX1_paint_53 : decode cX1_paint 53 = .ok (.lconst 0, 1) := by decide +kernel
theorem dX1_paint_54 : decode cX1_paint 54 = .ok (.lstore_n 2, 1) := by decide +kernel
theorem dX1_paint_55 : decode cX1_paint 55 = .ok (.iconst 0, 1) := by decide +kernel
theorem dX1_paint_56 : decode cX1_paint 56 = .ok (.istore 4, 2) := by decide +kernel
theorem dX1_paint_58 : decode cX1_paint 58 = .ok (.iload 4, 2) := by decide +kernel
theorem dX1_paint_60 : decode cX1_paint 60 = .ok (.aload_n 0, 1) := by decide +kernel
theorem dX1_paint_61 : decode cX1_paint 61 = .ok (.getfield 18, 3) := by decide +kernel
theorem dX1_paint_64 : decode cX1_paint 64 = .ok (.getfield 31, 3) := by decide +kernel
theorem dX1_paint_67 : decode cX1_paint 67 = .ok (.if_icmp .ge 43, 3) := by decide +kernel
theorem dX1_paint_70 : decode cX1_paint 70 = .ok (.aload_n 0, 1) := by decide +kernel
theorem dX1_paint_71 : decode cX1_paint 71 = .ok (.getfield 9, 3) := by decide +kernel
theorem dX1_paint_74 : decode cX1_paint 74 = .ok (.iload 4, 2) := by decide +kernel
theorem dX1_paint_76 : decode cX1_paint 76 = .ok (.iaload, 1) := by decide +kernel
theorem dX1_paint_77 : decode cX1_paint 77 = .ok (.istore 5, 2) := by decide +kernel
theorem dX1_paint_79 : decode cX1_paint 79 = .ok (.aload_n 0, 1) := by decide +kernel
theorem dX1_paint_80 : decode cX1_paint 80 = .ok (.getfield 15, 3) := by decide +kernel
theorem dX1_paint_83 : decode cX1_paint 83 = .ok (.iload 5, 2) := by decide +kernel
theorem dX1_paint_85 : decode cX1_paint 85 = .ok (.aload_n 0, 1) := by decide +kernel
theorem dX1_paint_86 : decode cX1_paint 86 = .ok (.iload 5, 2) := by decide +kernel
theorem dX1_paint_88 : decode cX1_paint 88 = .ok (.invokevirtual 37, 3) := by decide +kernel
theorem dX1_paint_91 : decode cX1_paint 91 = .ok (.iastore, 1) := by decide +kernel
theorem dX1_paint_92 : decode cX1_paint 92 = .ok (.lload_n 2, 1) := by decide +kernel
theorem dX1_paint_93 : decode cX1_paint 93 = .ok (.lconst 1, 1) := by decide +kernel
theorem dX1_paint_94 : decode cX1_paint 94 = .ok (.aload_n 0, 1) := by decide +kernel
theorem dX1_paint_95 : decode cX1_paint 95 = .ok (.getfield 15, 3) := by decide +kernel
theorem dX1_paint_98 : decode cX1_paint 98 = .ok (.iload 5, 2) := by decide +kernel
theorem dX1_paint_100 : decode cX1_paint 100 = .ok (.iaload, 1) := by decide +kernel
theorem dX1_paint_101 : decode cX1_paint 101 = .ok (.lshl, 1) := by decide +kernel
theorem dX1_paint_102 : decode cX1_paint 102 = .ok (.lor, 1) := by decide +kernel
theorem dX1_paint_103 : decode cX1_paint 103 = .ok (.lstore_n 2, 1) := by decide +kernel
theorem dX1_paint_104 : decode cX1_paint 104 = .ok (.iinc 4 1, 3) := by decide +kernel
theorem dX1_paint_107 : decode cX1_paint 107 = .ok (.goto (-49), 3) := by decide +kernel
theorem dX1_paint_110 : decode cX1_paint 110 = .ok (.lload_n 2, 1) := by decide +kernel
theorem dX1_paint_111 : decode cX1_paint 111 = .ok (.invokestatic 41, 3) := by decide +kernel
theorem dX1_paint_114 : decode cX1_paint 114 = .ok (.ireturn, 1) := by decide +kernel
theorem dX1_smallestFree_0 : decode cX1_smallestFree 0 = .ok (.lconst 0, 1) := by decide +kernel
theorem dX1_smallestFree_1 : decode cX1_smallestFree 1 = .ok (.lstore_n 2, 1) := by decide +kernel
theorem dX1_smallestFree_2 : decode cX1_smallestFree 2 = .ok (.iconst 0, 1) := by decide +kernel
theorem dX1_smallestFree_3 : decode cX1_smallestFree 3 = .ok (.istore 4, 2) := by decide +kernel
theorem dX1_smallestFree_5 : decode cX1_smallestFree 5 = .ok (.iload 4, 2) := by decide +kernel
theorem dX1_smallestFree_7 : decode cX1_smallestFree 7 = .ok (.aload_n 0, 1) := by decide +kernel
theorem dX1_smallestFree_8 : decode cX1_smallestFree 8 = .ok (.getfield 18, 3) := by decide +kernel
theorem dX1_smallestFree_11 : decode cX1_smallestFree 11 = .ok (.getfield 31, 3) := by decide +kernel
theorem dX1_smallestFree_14 : decode cX1_smallestFree 14 = .ok (.if_icmp .ge 63, 3) := by decide +kernel
theorem dX1_smallestFree_17 : decode cX1_smallestFree 17 = .ok (.aload_n 0, 1) := by decide +kernel
theorem dX1_smallestFree_18 : decode cX1_smallestFree 18 = .ok (.getfield 18, 3) := by decide +kernel
theorem dX1_smallestFree_21 : decode cX1_smallestFree 21 = .ok (.getfield 47, 3) := by decide +kernel
theorem dX1_smallestFree_24 : decode cX1_smallestFree 24 = .ok (.iload_n 1, 1) := by decide +kernel
theorem dX1_smallestFree_25 : decode cX1_smallestFree 25 = .ok (.laload, 1) := by decide +kernel
theorem dX1_smallestFree_26 : decode cX1_smallestFree 26 = .ok (.lconst 1, 1) := by decide +kernel
theorem dX1_smallestFree_27 : decode cX1_smallestFree 27 = .ok (.iload 4, 2) := by decide +kernel
theorem dX1_smallestFree_29 : decode cX1_smallestFree 29 = .ok (.lshl, 1) := by decide +kernel
theorem dX1_smallestFree_30 : decode cX1_smallestFree 30 = .ok (.land, 1) := by decide +kernel
theorem dX1_smallestFree_31 : decode cX1_smallestFree 31 = .ok (.lconst 0, 1) := by decide +kernel
theorem dX1_smallestFree_32 : decode cX1_smallestFree 32 = .ok (.lcmp, 1) := by decide +kernel
theorem dX1_smallestFree_33 : decode cX1_smallestFree 33 = .ok (.ifCond .eq 7, 3) := by decide +kernel
theorem dX1_smallestFree_36 : decode cX1_smallestFree 36 = .ok (.iconst 1, 1) := by decide +kernel
theorem dX1_smallestFree_37 : decode cX1_smallestFree 37 = .ok (.goto 4, 3) := by decide +kernel
theorem dX1_smallestFree_40 : decode cX1_smallestFree 40 = .ok (.iconst 0, 1) := by decide +kernel
theorem dX1_smallestFree_41 : decode cX1_smallestFree 41 = .ok (.istore 5, 2) := by decide +kernel
theorem dX1_smallestFree_43 : decode cX1_smallestFree 43 = .ok (.iload 5, 2) := by decide +kernel
theorem dX1_smallestFree_45 : decode cX1_smallestFree 45 = .ok (.ifCond .eq 26, 3) := by decide +kernel
theorem dX1_smallestFree_48 : decode cX1_smallestFree 48 = .ok (.aload_n 0, 1) := by decide +kernel
theorem dX1_smallestFree_49 : decode cX1_smallestFree 49 = .ok (.getfield 15, 3) := by decide +kernel
theorem dX1_smallestFree_52 : decode cX1_smallestFree 52 = .ok (.iload 4, 2) := by decide +kernel
theorem dX1_smallestFree_54 : decode cX1_smallestFree 54 = .ok (.iaload, 1) := by decide +kernel
theorem dX1_smallestFree_55 : decode cX1_smallestFree 55 = .ok (.iconst (-1), 1) := by decide +kernel
theorem dX1_smallestFree_56 : decode cX1_smallestFree 56 = .ok (.if_icmp .eq 15, 3) := by decide +kernel
theorem dX1_smallestFree_59 : decode cX1_smallestFree 59 = .ok (.lload_n 2, 1) := by decide +kernel
theorem dX1_smallestFree_60 : decode cX1_smallestFree 60 = .ok (.lconst 1, 1) := by decide +kernel
theorem dX1_smallestFree_61 : decode cX1_smallestFree 61 = .ok (.aload_n 0, 1) := by decide +kernel
theorem dX1_smallestFree_62 : decode cX1_smallestFree 62 = .ok (.getfield 15, 3) := by decide +kernel
theorem dX1_smallestFree_65 : decode cX1_smallestFree 65 = .ok (.iload 4, 2) := by decide +kernel
theorem dX1_smallestFree_67 : decode cX1_smallestFree 67 = .ok (.iaload, 1) := by decide +kernel
theorem dX1_smallestFree_68 : decode cX1_smallestFree 68 = .ok (.lshl, 1) := by decide +kernel
theorem dX1_smallestFree_69 : decode cX1_smallestFree 69 = .ok (.lor, 1) := by decide +kernel
theorem dX1_smallestFree_70 : decode cX1_smallestFree 70 = .ok (.lstore_n 2, 1) := by decide +kernel
theorem dX1_smallestFree_71 : decode cX1_smallestFree 71 = .ok (.iinc 4 1, 3) := by decide +kernel
theorem dX1_smallestFree_74 : decode cX1_smallestFree 74 = .ok (.goto (-69), 3) := by decide +kernel
theorem dX1_smallestFree_77 : decode cX1_smallestFree 77 = .ok (.lload_n 2, 1) := by decide +kernel
theorem dX1_smallestFree_78 : decode cX1_smallestFree 78 = .ok (.ldc2_w 51, 3) := by decide +kernel
theorem dX1_smallestFree_81 : decode cX1_smallestFree 81 = .ok (.lxor, 1) := by decide +kernel
theorem dX1_smallestFree_82 : decode cX1_smallestFree 82 = .ok (.invokestatic 53, 3) := by decide +kernel
theorem dX1_smallestFree_85 : decode cX1_smallestFree 85 = .ok (.ireturn, 1) := by decide +kernel
theorem dX1_arrangeByNumber_0 : decode cX1_arrangeByNumber 0 = .ok (.iconst 0, 1) := by decide +kernel
theorem dX1_arrangeByNumber_1 : decode cX1_arrangeByNumber 1 = .ok (.istore_n 1, 1) := by decide +kernel
theorem dX1_arrangeByNumber_2 : decode cX1_arrangeByNumber 2 = .ok (.iload_n 1, 1) := by decide +kernel
theorem dX1_arrangeByNumber_3 : decode cX1_arrangeByNumber 3 = .ok (.aload_n 0, 1) := by decide +kernel
theorem dX1_arrangeByNumber_4 : decode cX1_arrangeByNumber 4 = .ok (.getfield 18, 3) := by decide +kernel
theorem dX1_arrangeByNumber_7 : decode cX1_arrangeByNumber 7 = .ok (.getfield 31, 3) := by decide +kernel
theorem dX1_arrangeByNumber_10 : decode cX1_arrangeByNumber 10 = .ok (.if_icmp .ge 16, 3) := by decide +kernel
theorem dX1_arrangeByNumber_13 : decode cX1_arrangeByNumber 13 = .ok (.aload_n 0, 1) := by decide +kernel
theorem dX1_arrangeByNumber_14 : decode cX1_arrangeByNumber 14 = .ok (.getfield 9, 3) := by decide +kernel
theorem dX1_arrangeByNumber_17 : decode cX1_arrangeByNumber 17 = .ok (.iload_n 1, 1) := by decide +kernel
theorem dX1_arrangeByNumber_18 : decode cX1_arrangeByNumber 18 = .ok (.iload_n 1, 1) := by decide +kernel
theorem dX1_arrangeByNumber_19 : decode cX1_arrangeByNumber 19 = .ok (.iastore, 1) := by decide +kernel
theorem dX1_arrangeByNumber_20 : decode cX1_arrangeByNumber 20 = .ok (.iinc 1 1, 3) := by decide +kernel
theorem dX1_arrangeByNumber_23 : decode cX1_arrangeByNumber 23 = .ok (.goto (-21), 3) := by decide +kernel
theorem dX1_arrangeByNumber_26 : decode cX1_arrangeByNumber 26 = .ok (.return_, 1) := by decide +kernel
theorem dX1_arrangeByNeighbours_0 : decode cX1_arrangeByNeighbours 0 = .ok (.aload_n 0, 1) := by decide +kernel
theorem dX1_arrangeByNeighbours_1 : decode cX1_arrangeByNeighbours 1 = .ok (.getfield 18, 3) := by decide +kernel
theorem dX1_arrangeByNeighbours_4 : decode cX1_arrangeByNeighbours 4 = .ok (.invokevirtual 56, 3) := by decide +kernel
theorem dX1_arrangeByNeighbours_7 : decode cX1_arrangeByNeighbours 7 = .ok (.lstore_n 1, 1) := by decide +kernel
theorem dX1_arrangeByNeighbours_8 : decode cX1_arrangeByNeighbours 8 = .ok (.iconst 0, 1) := by decide +kernel
theorem dX1_arrangeByNeighbours_9 : decode cX1_arrangeByNeighbours 9 = .ok (.istore_n 3, 1) := by decide +kernel
theorem dX1_arrangeByNeighbours_10 : decode cX1_arrangeByNeighbours 10 = .ok (.iload_n 3, 1) := by decide +kernel
theorem dX1_arrangeByNeighbours_11 : decode cX1_arrangeByNeighbours 11 = .ok (.aload_n 0, 1) := by decide +kernel
theorem dX1_arrangeByNeighbours_12 : decode cX1_arrangeByNeighbours 12 = .ok (.getfield 18, 3) := by decide +kernel
theorem dX1_arrangeByNeighbours_15 : decode cX1_arrangeByNeighbours 15 = .ok (.getfield 31, 3) := by decide +kernel
theorem dX1_arrangeByNeighbours_18 : decode cX1_arrangeByNeighbours 18 = .ok (.if_icmp .ge 35, 3) := by decide +kernel
theorem dX1_arrangeByNeighbours_21 : decode cX1_arrangeByNeighbours 21 = .ok (.aload_n 0, 1) := by decide +kernel
theorem dX1_arrangeByNeighbours_22 : decode cX1_arrangeByNeighbours 22 = .ok (.getfield 9, 3) := by decide +kernel
theorem dX1_arrangeByNeighbours_25 : decode cX1_arrangeByNeighbours 25 = .ok (.iload_n 3, 1) := by decide +kernel
theorem dX1_arrangeByNeighbours_26 : decode cX1_arrangeByNeighbours 26 = .ok (.aload_n 0, 1) := by decide +kernel
theorem dX1_arrangeByNeighbours_27 : decode cX1_arrangeByNeighbours 27 = .ok (.lload_n 1, 1) := by decide +kernel
theorem dX1_arrangeByNeighbours_28 : decode cX1_arrangeByNeighbours 28 = .ok (.invokevirtual 60, 3) := by decide +kernel
theorem dX1_arrangeByNeighbours_31 : decode cX1_arrangeByNeighbours 31 = .ok (.iastore, 1) := by decide +kernel
theorem dX1_arrangeByNeighbours_32 : decode cX1_arrangeByNeighbours 32 = .ok (.lload_n 1, 1) := by decide +kernel
theorem dX1_arrangeByNeighbours_33 : decode cX1_arrangeByNeighbours 33 = .ok (.lconst 1, 1) := by decide +kernel
theorem dX1_arrangeByNeighbours_34 : decode cX1_arrangeByNeighbours 34 = .ok (.aload_n 0, 1) := by decide +kernel
theorem dX1_arrangeByNeighbours_35 : decode cX1_arrangeByNeighbours 35 = .ok (.getfield 9, 3) := by decide +kernel
theorem dX1_arrangeByNeighbours_38 : decode cX1_arrangeByNeighbours 38 = .ok (.iload_n 3, 1) := by decide +kernel
theorem dX1_arrangeByNeighbours_39 : decode cX1_arrangeByNeighbours 39 = .ok (.iaload, 1) := by decide +kernel
theorem dX1_arrangeByNeighbours_40 : decode cX1_arrangeByNeighbours 40 = .ok (.lshl, 1) := by decide +kernel
theorem dX1_arrangeByNeighbours_41 : decode cX1_arrangeByNeighbours 41 = .ok (.ldc2_w 51, 3) := by decide +kernel
theorem dX1_arrangeByNeighbours_44 : decode cX1_arrangeByNeighbours 44 = .ok (.lxor, 1) := by decide +kernel
theorem dX1_arrangeByNeighbours_45 : decode cX1_arrangeByNeighbours 45 = .ok (.land, 1) := by decide +kernel
theorem dX1_arrangeByNeighbours_46 : decode cX1_arrangeByNeighbours 46 = .ok (.lstore_n 1, 1) := by decide +kernel
theorem dX1_arrangeByNeighbours_47 : decode cX1_arrangeByNeighbours 47 = .ok (.iinc 3 1, 3) := by decide +kernel
theorem dX1_arrangeByNeighbours_50 : decode cX1_arrangeByNeighbours 50 = .ok (.goto (-40), 3) := by decide +kernel
theorem dX1_arrangeByNeighbours_53 : decode cX1_arrangeByNeighbours 53 = .ok (.return_, 1) := by decide +kernel
theorem dX1_arrangeByRemoval_0 : decode cX1_arrangeByRemoval 0 = .ok (.aload_n 0, 1) := by decide +kernel
theorem dX1_arrangeByRemoval_1 : decode cX1_arrangeByRemoval 1 = .ok (.getfield 18, 3) := by decide +kernel
theorem dX1_arrangeByRemoval_4 : decode cX1_arrangeByRemoval 4 = .ok (.invokevirtual 56, 3) := by decide +kernel
theorem dX1_arrangeByRemoval_7 : decode cX1_arrangeByRemoval 7 = .ok (.lstore_n 1, 1) := by decide +kernel
theorem dX1_arrangeByRemoval_8 : decode cX1_arrangeByRemoval 8 = .ok (.aload_n 0, 1) := by decide +kernel
theorem dX1_arrangeByRemoval_9 : decode cX1_arrangeByRemoval 9 = .ok (.getfield 18, 3) := by decide +kernel
theorem dX1_arrangeByRemoval_12 : decode cX1_arrangeByRemoval 12 = .ok (.getfield 31, 3) := by decide +kernel
theorem dX1_arrangeByRemoval_15 : decode cX1_arrangeByRemoval 15 = .ok (.iconst 1, 1) := by decide +kernel
theorem dX1_arrangeByRemoval_16 : decode cX1_arrangeByRemoval 16 = .ok (.isub, 1) := by decide +kernel
theorem dX1_arrangeByRemoval_17 : decode cX1_arrangeByRemoval 17 = .ok (.istore_n 3, 1) := by decide +kernel
theorem dX1_arrangeByRemoval_18 : decode cX1_arrangeByRemoval 18 = .ok (.iload_n 3, 1) := by decide +kernel
theorem dX1_arrangeByRemoval_19 : decode cX1_arrangeByRemoval 19 = .ok (.ifCond .lt 35, 3) := by decide +kernel
theorem dX1_arrangeByRemoval_22 : decode cX1_arrangeByRemoval 22 = .ok (.aload_n 0, 1) := by decide +kernel
theorem dX1_arrangeByRemoval_23 : decode cX1_arrangeByRemoval 23 = .ok (.getfield 9, 3) := by decide +kernel
theorem dX1_arrangeByRemoval_26 : decode cX1_arrangeByRemoval 26 = .ok (.iload_n 3, 1) := by decide +kernel
theorem dX1_arrangeByRemoval_27 : decode cX1_arrangeByRemoval 27 = .ok (.aload_n 0, 1) := by decide +kernel
theorem dX1_arrangeByRemoval_28 : decode cX1_arrangeByRemoval 28 = .ok (.lload_n 1, 1) := by decide +kernel
theorem dX1_arrangeByRemoval_29 : decode cX1_arrangeByRemoval 29 = .ok (.invokevirtual 63, 3) := by decide +kernel
theorem dX1_arrangeByRemoval_32 : decode cX1_arrangeByRemoval 32 = .ok (.iastore, 1) := by decide +kernel
theorem dX1_arrangeByRemoval_33 : decode cX1_arrangeByRemoval 33 = .ok (.lload_n 1, 1) := by decide +kernel
theorem dX1_arrangeByRemoval_34 : decode cX1_arrangeByRemoval 34 = .ok (.lconst 1, 1) := by decide +kernel
theorem dX1_arrangeByRemoval_35 : decode cX1_arrangeByRemoval 35 = .ok (.aload_n 0, 1) := by decide +kernel
theorem dX1_arrangeByRemoval_36 : decode cX1_arrangeByRemoval 36 = .ok (.getfield 9, 3) := by decide +kernel
theorem dX1_arrangeByRemoval_39 : decode cX1_arrangeByRemoval 39 = .ok (.iload_n 3, 1) := by decide +kernel
theorem dX1_arrangeByRemoval_40 : decode cX1_arrangeByRemoval 40 = .ok (.iaload, 1) := by decide +kernel
theorem dX1_arrangeByRemoval_41 : decode cX1_arrangeByRemoval 41 = .ok (.lshl, 1) := by decide +kernel
theorem dX1_arrangeByRemoval_42 : decode cX1_arrangeByRemoval 42 = .ok (.ldc2_w 51, 3) := by decide +kernel
theorem dX1_arrangeByRemoval_45 : decode cX1_arrangeByRemoval 45 = .ok (.lxor, 1) := by decide +kernel
theorem dX1_arrangeByRemoval_46 : decode cX1_arrangeByRemoval 46 = .ok (.land, 1) := by decide +kernel
theorem dX1_arrangeByRemoval_47 : decode cX1_arrangeByRemoval 47 = .ok (.lstore_n 1, 1) := by decide +kernel
theorem dX1_arrangeByRemoval_48 : decode cX1_arrangeByRemoval 48 = .ok (.iinc 3 (-1), 3) := by decide +kernel
theorem dX1_arrangeByRemoval_51 : decode cX1_arrangeByRemoval 51 = .ok (.goto (-33), 3) := by decide +kernel
theorem dX1_arrangeByRemoval_54 : decode cX1_arrangeByRemoval 54 = .ok (.return_, 1) := by decide +kernel
theorem dX1_mostNeighbours_0 : decode cX1_mostNeighbours 0 = .ok (.iconst 0, 1) := by decide +kernel
theorem dX1_mostNeighbours_1 : decode cX1_mostNeighbours 1 = .ok (.istore_n 3, 1) := by decide +kernel
theorem dX1_mostNeighbours_2 : decode cX1_mostNeighbours 2 = .ok (.iconst (-1), 1) := by decide +kernel
theorem dX1_mostNeighbours_3 : decode cX1_mostNeighbours 3 = .ok (.istore 4, 2) := by decide +kernel
theorem dX1_mostNeighbours_5 : decode cX1_mostNeighbours 5 = .ok (.iconst 0, 1) := by decide +kernel
theorem dX1_mostNeighbours_6 : decode cX1_mostNeighbours 6 = .ok (.istore 5, 2) := by decide +kernel
theorem dX1_mostNeighbours_8 : decode cX1_mostNeighbours 8 = .ok (.iload 5, 2) := by decide +kernel
theorem dX1_mostNeighbours_10 : decode cX1_mostNeighbours 10 = .ok (.aload_n 0, 1) := by decide +kernel
theorem dX1_mostNeighbours_11 : decode cX1_mostNeighbours 11 = .ok (.getfield 18, 3) := by decide +kernel
theorem dX1_mostNeighbours_14 : decode cX1_mostNeighbours 14 = .ok (.getfield 31, 3) := by decide +kernel
theorem dX1_mostNeighbours_17 : decode cX1_mostNeighbours 17 = .ok (.if_icmp .ge 49, 3) := by decide +kernel
theorem dX1_mostNeighbours_20 : decode cX1_mostNeighbours 20 = .ok (.aload_n 0, 1) := by decide +kernel
theorem dX1_mostNeighbours_21 : decode cX1_mostNeighbours 21 = .ok (.getfield 18, 3) := by decide +kernel
theorem dX1_mostNeighbours_24 : decode cX1_mostNeighbours 24 = .ok (.getfield 47, 3) := by decide +kernel
theorem dX1_mostNeighbours_27 : decode cX1_mostNeighbours 27 = .ok (.iload 5, 2) := by decide +kernel
theorem dX1_mostNeighbours_29 : decode cX1_mostNeighbours 29 = .ok (.laload, 1) := by decide +kernel
theorem dX1_mostNeighbours_30 : decode cX1_mostNeighbours 30 = .ok (.invokestatic 41, 3) := by decide +kernel
theorem dX1_mostNeighbours_33 : decode cX1_mostNeighbours 33 = .ok (.istore 6, 2) := by decide +kernel
theorem dX1_mostNeighbours_35 : decode cX1_mostNeighbours 35 = .ok (.lload_n 1, 1) := by decide +kernel
theorem dX1_mostNeighbours_36 : decode cX1_mostNeighbours 36 = .ok (.lconst 1, 1) := by decide +kernel
theorem dX1_mostNeighbours_37 : decode cX1_mostNeighbours 37 = .ok (.iload 5, 2) := by decide +kernel
theorem dX1_mostNeighbours_39 : decode cX1_mostNeighbours 39 = .ok (.lshl, 1) := by decide +kernel
theorem dX1_mostNeighbours_40 : decode cX1_mostNeighbours 40 = .ok (.land, 1) := by decide +kernel
theorem dX1_mostNeighbours_41 : decode cX1_mostNeighbours 41 = .ok (.lconst 0, 1) := by decide +kernel
theorem dX1_mostNeighbours_42 : decode cX1_mostNeighbours 42 = .ok (.lcmp, 1) := by decide +kernel
theorem dX1_mostNeighbours_43 : decode cX1_mostNeighbours 43 = .ok (.ifCond .eq 17, 3) := by decide +kernel
theorem dX1_mostNeighbours_46 : decode cX1_mostNeighbours 46 = .ok (.iload 6, 2) := by decide +kernel
theorem dX1_mostNeighbours_48 : decode cX1_mostNeighbours 48 = .ok (.iload 4, 2) := by decide +kernel
theorem dX1_mostNeighbours_50 : decode cX1_mostNeighbours 50 = .ok (.if_icmp .le 10, 3) := by decide +kernel
theorem dX1_mostNeighbours_53 : decode cX1_mostNeighbours 53 = .ok (.iload 5, 2) := by decide +kernel
theorem dX1_mostNeighbours_55 : decode cX1_mostNeighbours 55 = .ok (.istore_n 3, 1) := by decide +kernel
theorem dX1_mostNeighbours_56 : decode cX1_mostNeighbours 56 = .ok (.iload 6, 2) := by decide +kernel
theorem dX1_mostNeighbours_58 : decode cX1_mostNeighbours 58 = .ok (.istore 4, 2) := by decide +kernel
theorem dX1_mostNeighbours_60 : decode cX1_mostNeighbours 60 = .ok (.iinc 5 1, 3) := by decide +kernel
theorem dX1_mostNeighbours_63 : decode cX1_mostNeighbours 63 = .ok (.goto (-55), 3) := by decide +kernel
theorem dX1_mostNeighbours_66 : decode cX1_mostNeighbours 66 = .ok (.iload_n 3, 1) := by decide +kernel
theorem dX1_mostNeighbours_67 : decode cX1_mostNeighbours 67 = .ok (.ireturn, 1) := by decide +kernel
theorem dX1_fewestNeighboursAmong_0 : decode cX1_fewestNeighboursAmong 0 = .ok (.iconst 0, 1) := by decide +kernel
theorem dX1_fewestNeighboursAmong_1 : decode cX1_fewestNeighboursAmong 1 = .ok (.istore_n 3, 1) := by decide +kernel
theorem dX1_fewestNeighboursAmong_2 : decode cX1_fewestNeighboursAmong 2 = .ok (.bipush 49, 2) := by decide +kernel
theorem dX1_fewestNeighboursAmong_4 : decode cX1_fewestNeighboursAmong 4 = .ok (.istore 4, 2) := by decide +kernel
theorem dX1_fewestNeighboursAmong_6 : decode cX1_fewestNeighboursAmong 6 = .ok (.iconst 0, 1) := by decide +kernel
theorem dX1_fewestNeighboursAmong_7 : decode cX1_fewestNeighboursAmong 7 = .ok (.istore 5, 2) := by decide +kernel
theorem dX1_fewestNeighboursAmong_9 : decode cX1_fewestNeighboursAmong 9 = .ok (.iload 5, 2) := by decide +kernel
theorem dX1_fewestNeighboursAmong_11 : decode cX1_fewestNeighboursAmong 11 = .ok (.aload_n 0, 1) := by decide +kernel
theorem dX1_fewestNeighboursAmong_12 : decode cX1_fewestNeighboursAmong 12 = .ok (.getfield 18, 3) := by decide +kernel
theorem dX1_fewestNeighboursAmong_15 : decode cX1_fewestNeighboursAmong 15 = .ok (.getfield 31, 3) := by decide +kernel
theorem dX1_fewestNeighboursAmong_18 : decode cX1_fewestNeighboursAmong 18 = .ok (.if_icmp .ge 51, 3) := by decide +kernel
theorem dX1_fewestNeighboursAmong_21 : decode cX1_fewestNeighboursAmong 21 = .ok (.aload_n 0, 1) := by decide +kernel
theorem dX1_fewestNeighboursAmong_22 : decode cX1_fewestNeighboursAmong 22 = .ok (.getfield 18, 3) := by decide +kernel
theorem dX1_fewestNeighboursAmong_25 : decode cX1_fewestNeighboursAmong 25 = .ok (.getfield 47, 3) := by decide +kernel
theorem dX1_fewestNeighboursAmong_28 : decode cX1_fewestNeighboursAmong 28 = .ok (.iload 5, 2) := by decide +kernel
theorem dX1_fewestNeighboursAmong_30 : decode cX1_fewestNeighboursAmong 30 = .ok (.laload, 1) := by decide +kernel
theorem dX1_fewestNeighboursAmong_31 : decode cX1_fewestNeighboursAmong 31 = .ok (.lload_n 1, 1) := by decide +kernel
theorem dX1_fewestNeighboursAmong_32 : decode cX1_fewestNeighboursAmong 32 = .ok (.land, 1) := by decide +kernel
theorem dX1_fewestNeighboursAmong_33 : decode cX1_fewestNeighboursAmong 33 = .ok (.invokestatic 41, 3) := by decide +kernel
theorem dX1_fewestNeighboursAmong_36 : decode cX1_fewestNeighboursAmong 36 = .ok (.istore 6, 2) := by decide +kernel
theorem dX1_fewestNeighboursAmong_38 : decode cX1_fewestNeighboursAmong 38 = .ok (.lload_n 1, 1) := by decide +kernel
theorem dX1_fewestNeighboursAmong_39 : decode cX1_fewestNeighboursAmong 39 = .ok (.lconst 1, 1) := by decide +kernel
theorem dX1_fewestNeighboursAmong_40 : decode cX1_fewestNeighboursAmong 40 = .ok (.iload 5, 2) := by decide +kernel
theorem dX1_fewestNeighboursAmong_42 : decode cX1_fewestNeighboursAmong 42 = .ok (.lshl, 1) := by decide +kernel
theorem dX1_fewestNeighboursAmong_43 : decode cX1_fewestNeighboursAmong 43 = .ok (.land, 1) := by decide +kernel
theorem dX1_fewestNeighboursAmong_44 : decode cX1_fewestNeighboursAmong 44 = .ok (.lconst 0, 1) := by decide +kernel
theorem dX1_fewestNeighboursAmong_45 : decode cX1_fewestNeighboursAmong 45 = .ok (.lcmp, 1) := by decide +kernel
theorem dX1_fewestNeighboursAmong_46 : decode cX1_fewestNeighboursAmong 46 = .ok (.ifCond .eq 17, 3) := by decide +kernel
theorem dX1_fewestNeighboursAmong_49 : decode cX1_fewestNeighboursAmong 49 = .ok (.iload 6, 2) := by decide +kernel
theorem dX1_fewestNeighboursAmong_51 : decode cX1_fewestNeighboursAmong 51 = .ok (.iload 4, 2) := by decide +kernel
theorem dX1_fewestNeighboursAmong_53 : decode cX1_fewestNeighboursAmong 53 = .ok (.if_icmp .ge 10, 3) := by decide +kernel
theorem dX1_fewestNeighboursAmong_56 : decode cX1_fewestNeighboursAmong 56 = .ok (.iload 5, 2) := by decide +kernel
theorem dX1_fewestNeighboursAmong_58 : decode cX1_fewestNeighboursAmong 58 = .ok (.istore_n 3, 1) := by decide +kernel
theorem dX1_fewestNeighboursAmong_59 : decode cX1_fewestNeighboursAmong 59 = .ok (.iload 6, 2) := by decide +kernel
theorem dX1_fewestNeighboursAmong_61 : decode cX1_fewestNeighboursAmong 61 = .ok (.istore 4, 2) := by decide +kernel
theorem dX1_fewestNeighboursAmong_63 : decode cX1_fewestNeighboursAmong 63 = .ok (.iinc 5 1, 3) := by decide +kernel
theorem dX1_fewestNeighboursAmong_66 : decode cX1_fewestNeighboursAmong 66 = .ok (.goto (-57), 3) := by decide +kernel
theorem dX1_fewestNeighboursAmong_69 : decode cX1_fewestNeighboursAmong 69 = .ok (.iload_n 3, 1) := by decide +kernel
theorem dX1_fewestNeighboursAmong_70 : decode cX1_fewestNeighboursAmong 70 = .ok (.ireturn, 1) := by decide +kernel
theorem dX2_init_0 : decode cX2_init 0 = .ok (.aload_n 0, 1) := by decide +kernel
theorem dX2_init_1 : decode cX2_init 1 = .ok (.invokespecial 1, 3) := by decide +kernel
theorem dX2_init_4 : decode cX2_init 4 = .ok (.aload_n 0, 1) := by decide +kernel
theorem dX2_init_5 : decode cX2_init 5 = .ok (.iconst 3, 1) := by decide +kernel
theorem dX2_init_6 : decode cX2_init 6 = .ok (.putfield 7, 3) := by decide +kernel
theorem dX2_init_9 : decode cX2_init 9 = .ok (.aload_n 0, 1) := by decide +kernel
theorem dX2_init_10 : decode cX2_init 10 = .ok (.iconst 3, 1) := by decide +kernel
theorem dX2_init_11 : decode cX2_init 11 = .ok (.putfield 13, 3) := by decide +kernel
theorem dX2_init_14 : decode cX2_init 14 = .ok (.aload_n 0, 1) := by decide +kernel
theorem dX2_init_15 : decode cX2_init 15 = .ok (.bipush 56, 2) := by decide +kernel
theorem dX2_init_17 : decode cX2_init 17 = .ok (.newarray .int, 2) := by decide +kernel
theorem dX2_init_19 : decode cX2_init 19 = .ok (.putfield 18, 3) := by decide +kernel
theorem dX2_init_22 : decode cX2_init 22 = .ok (.aload_n 0, 1) := by decide +kernel
theorem dX2_init_23 : decode cX2_init 23 = .ok (.lconst 0, 1) := by decide +kernel
theorem dX2_init_24 : decode cX2_init 24 = .ok (.putfield 22, 3) := by decide +kernel
theorem dX2_init_27 : decode cX2_init 27 = .ok (.aload_n 0, 1) := by decide +kernel
theorem dX2_init_28 : decode cX2_init 28 = .ok (.lconst 0, 1) := by decide +kernel
theorem dX2_init_29 : decode cX2_init 29 = .ok (.putfield 26, 3) := by decide +kernel
theorem dX2_init_32 : decode cX2_init 32 = .ok (.aload_n 0, 1) := by decide +kernel
theorem dX2_init_33 : decode cX2_init 33 = .ok (.bipush 12, 2) := by decide +kernel
theorem dX2_init_35 : decode cX2_init 35 = .ok (.putfield 29, 3) := by decide +kernel
theorem dX2_init_38 : decode cX2_init 38 = .ok (.aload_n 0, 1) := by decide +kernel
theorem dX2_init_39 : decode cX2_init 39 = .ok (.iconst 1, 1) := by decide +kernel
theorem dX2_init_40 : decode cX2_init 40 = .ok (.putfield 32, 3) := by decide +kernel
theorem dX2_init_43 : decode cX2_init 43 = .ok (.return_, 1) := by decide +kernel
theorem dX2_copyFrom_0 : decode cX2_copyFrom 0 = .ok (.aload_n 0, 1) := by decide +kernel
theorem dX2_copyFrom_1 : decode cX2_copyFrom 1 = .ok (.aload_n 1, 1) := by decide +kernel
theorem dX2_copyFrom_2 : decode cX2_copyFrom 2 = .ok (.getfield 7, 3) := by decide +kernel
theorem dX2_copyFrom_5 : decode cX2_copyFrom 5 = .ok (.putfield 7, 3) := by decide +kernel
theorem dX2_copyFrom_8 : decode cX2_copyFrom 8 = .ok (.aload_n 0, 1) := by decide +kernel
theorem dX2_copyFrom_9 : decode cX2_copyFrom 9 = .ok (.aload_n 1, 1) := by decide +kernel
theorem dX2_copyFrom_10 : decode cX2_copyFrom 10 = .ok (.getfield 13, 3) := by decide +kernel
theorem dX2_copyFrom_13 : decode cX2_copyFrom 13 = .ok (.putfield 13, 3) := by decide +kernel
theorem dX2_copyFrom_16 : decode cX2_copyFrom 16 = .ok (.aload_n 1, 1) := by decide +kernel
theorem dX2_copyFrom_17 : decode cX2_copyFrom 17 = .ok (.getfield 18, 3) := by decide +kernel
theorem dX2_copyFrom_20 : decode cX2_copyFrom 20 = .ok (.iconst 0, 1) := by decide +kernel
theorem dX2_copyFrom_21 : decode cX2_copyFrom 21 = .ok (.aload_n 0, 1) := by decide +kernel
theorem dX2_copyFrom_22 : decode cX2_copyFrom 22 = .ok (.getfield 18, 3) := by decide +kernel
theorem dX2_copyFrom_25 : decode cX2_copyFrom 25 = .ok (.iconst 0, 1) := by decide +kernel
theorem dX2_copyFrom_26 : decode cX2_copyFrom 26 = .ok (.bipush 56, 2) := by decide +kernel
theorem dX2_copyFrom_28 : decode cX2_copyFrom 28 = .ok (.invokestatic 35, 3) := by decide +kernel
theorem dX2_copyFrom_31 : decode cX2_copyFrom 31 = .ok (.aload_n 0, 1) := by decide +kernel
theorem dX2_copyFrom_32 : decode cX2_copyFrom 32 = .ok (.aload_n 1, 1) := by decide +kernel
theorem dX2_copyFrom_33 : decode cX2_copyFrom 33 = .ok (.getfield 22, 3) := by decide +kernel
theorem dX2_copyFrom_36 : decode cX2_copyFrom 36 = .ok (.putfield 22, 3) := by decide +kernel
theorem dX2_copyFrom_39 : decode cX2_copyFrom 39 = .ok (.aload_n 0, 1) := by decide +kernel
theorem dX2_copyFrom_40 : decode cX2_copyFrom 40 = .ok (.aload_n 1, 1) := by decide +kernel
theorem dX2_copyFrom_41 : decode cX2_copyFrom 41 = .ok (.getfield 26, 3) := by decide +kernel
theorem dX2_copyFrom_44 : decode cX2_copyFrom 44 = .ok (.putfield 26, 3) := by decide +kernel
theorem dX2_copyFrom_47 : decode cX2_copyFrom 47 = .ok (.aload_n 0, 1) := by decide +kernel
theorem dX2_copyFrom_48 : decode cX2_copyFrom 48 = .ok (.aload_n 1, 1) := by decide +kernel
theorem dX2_copyFrom_49 : decode cX2_copyFrom 49 = .ok (.getfield 29, 3) := by decide +kernel
theorem dX2_copyFrom_52 : decode cX2_copyFrom 52 = .ok (.putfield 29, 3) := by decide +kernel
theorem dX2_copyFrom_55 : decode cX2_copyFrom 55 = .ok (.aload_n 0, 1) := by decide +kernel
theorem dX2_copyFrom_56 : decode cX2_copyFrom 56 = .ok (.aload_n 1, 1) := by decide +kernel
theorem dX2_copyFrom_57 : decode cX2_copyFrom 57 = .ok (.getfield 32, 3) := by decide +kernel
theorem dX2_copyFrom_60 : decode cX2_copyFrom 60 = .ok (.putfield 32, 3) := by decide +kernel
theorem dX2_copyFrom_63 : decode cX2_copyFrom 63 = .ok (.return_, 1) := by decide +kernel
theorem dX2_hasCell_0 : decode cX2_hasCell 0 = .ok (.iload_n 1, 1) := by decide +kernel
theorem dX2_hasCell_1 : decode cX2_hasCell 1 = .ok (.ifCond .lt 27, 3) := by decide +kernel
theorem dX2_hasCell_4 : decode cX2_hasCell 4 = .ok (.iload_n 1, 1) := by decide +kernel
theorem dX2_hasCell_5 : decode cX2_hasCell 5 = .ok (.aload_n 0, 1) := by decide +kernel
theorem dX2_hasCell_6 : decode cX2_hasCell 6 = .ok (.getfield 7, 3) := by decide +kernel
theorem dX2_hasCell_9 : decode cX2_hasCell 9 = .ok (.if_icmp .ge 19, 3) := by decide +kernel
theorem dX2_hasCell_12 : decode cX2_hasCell 12 = .ok (.iload_n 2, 1) := by decide +kernel
theorem dX2_hasCell_13 : decode cX2_hasCell 13 = .ok (.ifCond .lt 15, 3) := by decide +kernel
theorem dX2_hasCell_16 : decode cX2_hasCell 16 = .ok (.iload_n 2, 1) := by decide +kernel
theorem dX2_hasCell_17 : decode cX2_hasCell 17 = .ok (.aload_n 0, 1) := by decide +kernel
theorem dX2_hasCell_18 : decode cX2_hasCell 18 = .ok (.getfield 13, 3) := by decide +kernel
theorem dX2_hasCell_21 : decode cX2_hasCell 21 = .ok (.if_icmp .ge 7, 3) := by decide +kernel
theorem dX2_hasCell_24 : decode cX2_hasCell 24 = .ok (.iconst 1, 1) := by decide +kernel
theorem dX2_hasCell_25 : decode cX2_hasCell 25 = .ok (.goto 4, 3) := by decide +kernel
theorem dX2_hasCell_28 : decode cX2_hasCell 28 = .ok (.iconst 0, 1) := by decide +kernel
theorem dX2_hasCell_29 : decode cX2_hasCell 29 = .ok (.ireturn, 1) := by decide +kernel
theorem dX2_hasPair_0 : decode cX2_hasPair 0 = .ok (.aload_n 0, 1) := by decide +kernel
theorem dX2_hasPair_1 : decode cX2_hasPair 1 = .ok (.iload_n 1, 1) := by decide +kernel
theorem dX2_hasPair_2 : decode cX2_hasPair 2 = .ok (.iload_n 2, 1) := by decide +kernel
theorem dX2_hasPair_3 : decode cX2_hasPair 3 = .ok (.invokevirtual 41, 3) := by decide +kernel
theorem dX2_hasPair_6 : decode cX2_hasPair 6 = .ok (.ifCond .ne 5, 3) := by decide +kernel
theorem dX2_hasPair_9 : decode cX2_hasPair 9 = .ok (.iconst 0, 1) := by decide +kernel
theorem dX2_hasPair_10 : decode cX2_hasPair 10 = .ok (.ireturn, 1) := by decide +kernel
theorem dX2_hasPair_11 : decode cX2_hasPair 11 = .ok (.iload_n 3, 1) := by decide +kernel
theorem dX2_hasPair_12 : decode cX2_hasPair 12 = .ok (.ifCond .ne 19, 3) := by decide +kernel
theorem dX2_hasPair_15 : decode cX2_hasPair 15 = .ok (.iload_n 2, 1) := by decide +kernel
theorem dX2_hasPair_16 : decode cX2_hasPair 16 = .ok (.iconst 1, 1) := by decide +kernel
theorem dX2_hasPair_17 : decode cX2_hasPair 17 = .ok (.iadd, 1) := by decide +kernel
theorem dX2_hasPair_18 : decode cX2_hasPair 18 = .ok (.aload_n 0, 1) := by decide +kernel
theorem dX2_hasPair_19 : decode cX2_hasPair 19 = .ok (.getfield 13, 3) := by decide +kernel
theorem dX2_hasPair_22 : decode cX2_hasPair 22 = .ok (.if_icmp .ge 7, 3) := by decide +kernel
theorem dX2_hasPair_25 : decode cX2_hasPair 25 = .ok (.iconst 1, 1) := by decide +kernel
theorem dX2_hasPair_26 : decode cX2_hasPair 26 = .ok (.goto 4, 3) := by decide +kernel
theorem dX2_hasPair_29 : decode cX2_hasPair 29 = .ok (.iconst 0, 1) := by decide +kernel
theorem dX2_hasPair_30 : decode cX2_hasPair 30 = .ok (.ireturn, 1) := by decide +kernel
theorem dX2_hasPair_31 : decode cX2_hasPair 31 = .ok (.iload_n 3, 1) := by decide +kernel
theorem dX2_hasPair_32 : decode cX2_hasPair 32 = .ok (.iconst 1, 1) := by decide +kernel
theorem dX2_hasPair_33 : decode cX2_hasPair 33 = .ok (.if_icmp .ne 17, 3) := by decide +kernel
theorem dX2_hasPair_36 : decode cX2_hasPair 36 = .ok (.iload_n 1, 1) := by decide +kernel
theorem dX2_hasPair_37 : decode cX2_hasPair 37 = .ok (.iconst 1, 1) := by decide +kernel
theorem dX2_hasPair_38 : decode cX2_hasPair 38 = .ok (.iadd, 1) := by decide +kernel
theorem dX2_hasPair_39 : decode cX2_hasPair 39 = .ok (.aload_n 0, 1) := by decide +kernel
theorem dX2_hasPair_40 : decode cX2_hasPair 40 = .ok (.getfield 7, 3) := by decide +kernel
theorem dX2_hasPair_43 : decode cX2_hasPair 43 = .ok (.if_icmp .ge 7, 3) := by decide +kernel
theorem dX2_hasPair_46 : decode cX2_hasPair 46 = .ok (.iconst 1, 1) := by decide +kernel
theorem dX2_hasPair_47 : decode cX2_hasPair 47 = .ok (.goto 4, 3) := by decide +kernel
theorem dX2_hasPair_50 : decode cX2_hasPair 50 = .ok (.iconst 0, 1) := by decide +kernel
theorem dX2_hasPair_51 : decode cX2_hasPair 51 = .ok (.ireturn, 1) := by decide +kernel
theorem dX2_hasCut_0 : decode cX2_hasCut 0 = .ok (.iload_n 3, 1) := by decide +kernel
theorem dX2_hasCut_1 : decode cX2_hasCut 1 = .ok (.ifCond .ne 10, 3) := by decide +kernel
theorem dX2_hasCut_4 : decode cX2_hasCut 4 = .ok (.aload_n 0, 1) := by decide +kernel
theorem dX2_hasCut_5 : decode cX2_hasCut 5 = .ok (.getfield 22, 3) := by decide +kernel
theorem dX2_hasCut_8 : decode cX2_hasCut 8 = .ok (.goto 7, 3) := by decide +kernel
theorem dX2_hasCut_11 : decode cX2_hasCut 11 = .ok (.aload_n 0, 1) := by decide +kernel
theorem dX2_hasCut_12 : decode cX2_hasCut 12 = .ok (.getfield 26, 3) := by decide +kernel
theorem dX2_hasCut_15 : decode cX2_hasCut 15 = .ok (.lstore 4, 2) := by decide +kernel
theorem dX2_hasCut_17 : decode cX2_hasCut 17 = .ok (.lload 4, 2) := by decide +kernel
theorem dX2_hasCut_19 : decode cX2_hasCut 19 = .ok (.iload_n 1, 1) := by decide +kernel
theorem dX2_hasCut_20 : decode cX2_hasCut 20 = .ok (.iload_n 2, 1) := by decide +kernel
theorem dX2_hasCut_21 : decode cX2_hasCut 21 = .ok (.invokestatic 45, 3) := by decide +kernel
theorem dX2_hasCut_24 : decode cX2_hasCut 24 = .ok (.land, 1) := by decide +kernel
theorem dX2_hasCut_25 : decode cX2_hasCut 25 = .ok (.lconst 0, 1) := by decide +kernel
theorem dX2_hasCut_26 : decode cX2_hasCut 26 = .ok (.lcmp, 1) := by decide +kernel
theorem dX2_hasCut_27 : decode cX2_hasCut 27 = .ok (.ifCond .eq 7, 3) := by decide +kernel
theorem dX2_hasCut_30 : decode cX2_hasCut 30 = .ok (.iconst 1, 1) := by decide +kernel
theorem dX2_hasCut_31 : decode cX2_hasCut 31 = .ok (.goto 4, 3) := by decide +kernel
theorem dX2_hasCut_34 : decode cX2_hasCut 34 = .ok (.iconst 0, 1) := by decide +kernel
theorem dX2_hasCut_35 : decode cX2_hasCut 35 = .ok (.ireturn, 1) := by decide +kernel
theorem dX2_flip_0 : decode cX2_flip 0 = .ok (.iload_n 3, 1) := by decide +kernel
theorem dX2_flip_1 : decode cX2_flip 1 = .ok (.ifCond .ne 20, 3) := by decide +kernel
theorem dX2_flip_4 : decode cX2_flip 4 = .ok (.aload_n 0, 1) := by decide +kernel
theorem dX2_flip_5 : decode cX2_flip 5 = .ok (.dup, 1) := by decide +kernel
theorem dX2_flip_6 : decode cX2_flip 6 = .ok (.getfield 22, 3) := by decide +kernel
theorem dX2_flip_9 : decode cX2_flip 9 = .ok (.iload_n 1, 1) := by decide +kernel
theorem dX2_flip_10 : decode cX2_flip 10 = .ok (.iload_n 2, 1) := by decide +kernel
theorem dX2_flip_11 : decode cX2_flip 11 = .ok (.invokestatic 45, 3) := by decide +kernel
theorem dX2_flip_14 : decode cX2_flip 14 = .ok (.lxor, 1) := by decide +kernel
theorem dX2_flip_15 : decode cX2_flip 15 = .ok (.putfield 22, 3) := by decide +kernel
theorem dX2_flip_18 : decode cX2_flip 18 = .ok (.goto 17, 3) := by decide +kernel
theorem dX2_flip_21 : decode cX2_flip 21 = .ok (.aload_n 0, 1) := by decide +kernel
theorem dX2_flip_22 : decode cX2_flip 22 = .ok (.dup, 1) := by decide +kernel
theorem dX2_flip_23 : decode cX2_flip 23 = .ok (.getfield 26, 3) := by decide +kernel
theorem dX2_flip_26 : decode cX2_flip 26 = .ok (.iload_n 1, 1) := by decide +kernel
theorem dX2_flip_27 : decode cX2_flip 27 = .ok (.iload_n 2, 1) := by decide +kernel
theorem dX2_flip_28 : decode cX2_flip 28 = .ok (.invokestatic 45, 3) := by decide +kernel
theorem dX2_flip_31 : decode cX2_flip 31 = .ok (.lxor, 1) := by decide +kernel
theorem dX2_flip_32 : decode cX2_flip 32 = .ok (.putfield 26, 3) := by decide +kernel
theorem dX2_flip_35 : decode cX2_flip 35 = .ok (.return_, 1) := by decide +kernel
theorem dX2_countCuts_0 : decode cX2_countCuts 0 = .ok (.aload_n 0, 1) := by decide +kernel
theorem dX2_countCuts_1 : decode cX2_countCuts 1 = .ok (.getfield 22, 3) := by decide +kernel
theorem dX2_countCuts_4 : decode cX2_countCuts 4 = .ok (.invokestatic 49, 3) := by decide +kernel
theorem dX2_countCuts_7 : decode cX2_countCuts 7 = .ok (.aload_n 0, 1) := by decide +kernel
theorem dX2_countCuts_8 : decode cX2_countCuts 8 = .ok (.getfield 26, 3) := by decide +kernel
theorem dX2_countCuts_11 : decode cX2_countCuts 11 = .ok (.invokestatic 49, 3) := by decide +kernel
theorem dX2_countCuts_14 : decode cX2_countCuts 14 = .ok (.iadd, 1) := by decide +kernel
theorem dX2_countCuts_15 : decode cX2_countCuts 15 = .ok (.ireturn, 1) := by decide +kernel
theorem dX2_isJoined_0 : decode cX2_isJoined 0 = .ok (.aload_n 0, 1) := by decide +kernel
theorem dX2_isJoined_1 : decode cX2_isJoined 1 = .ok (.iload_n 1, 1) := by decide +kernel
theorem dX2_isJoined_2 : decode cX2_isJoined 2 = .ok (.iload_n 2, 1) := by decide +kernel
theorem dX2_isJoined_3 : decode cX2_isJoined 3 = .ok (.iload_n 3, 1) := by decide +kernel
theorem dX2_isJoined_4 : decode cX2_isJoined 4 = .ok (.invokevirtual 55, 3) := by decide +kernel
theorem dX2_isJoined_7 : decode cX2_isJoined 7 = .ok (.ifCond .eq 13, 3) := by decide +kernel
theorem dX2_isJoined_10 : decode cX2_isJoined 10 = .ok (.aload_n 0, 1) := by decide +kernel
theorem dX2_isJoined_11 : decode cX2_isJoined 11 = .ok (.iload_n 1, 1) := by decide +kernel
theorem dX2_isJoined_12 : decode cX2_isJoined 12 = .ok (.iload_n 2, 1) := by decide +kernel
theorem dX2_isJoined_13 : decode cX2_isJoined 13 = .ok (.iload_n 3, 1) := by decide +kernel
theorem dX2_isJoined_14 : decode cX2_isJoined 14 = .ok (.invokevirtual 59, 3) := by decide +kernel
theorem dX2_isJoined_17 : decode cX2_isJoined 17 = .ok (.ifCond .eq 5, 3) := by decide +kernel
theorem dX2_isJoined_20 : decode cX2_isJoined 20 = .ok (.iconst 0, 1) := by decide +kernel
theorem dX2_isJoined_21 : decode cX2_isJoined 21 = .ok (.ireturn, 1) := by decide +kernel
theorem dX2_isJoined_22 : decode cX2_isJoined 22 = .ok (.iload_n 3, 1) := by decide +kernel
theorem dX2_isJoined_23 : decode cX2_isJoined 23 = .ok (.ifCond .ne 13, 3) := by decide +kernel
theorem dX2_isJoined_26 : decode cX2_isJoined 26 = .ok (.iload_n 1, 1) := by decide +kernel
theorem dX2_isJoined_27 : decode cX2_isJoined 27 = .ok (.iload_n 2, 1) := by decide +kernel
theorem dX2_isJoined_28 : decode cX2_isJoined 28 = .ok (.iconst 1, 1) := by decide +kernel
theorem dX2_isJoined_29 : decode cX2_isJoined 29 = .ok (.iadd, 1) := by decide +kernel
theorem dX2_isJoined_30 : decode cX2_isJoined 30 = .ok (.invokestatic 62, 3) := by decide +kernel
theorem dX2_isJoined_33 : decode cX2_isJoined 33 = .ok (.goto 10, 3) := by decide +kernel
theorem dX2_isJoined_36 : decode cX2_isJoined 36 = .ok (.iload_n 1, 1) := by decide +kernel
theorem dX2_isJoined_37 : decode cX2_isJoined 37 = .ok (.iconst 1, 1) := by decide +kernel
theorem dX2_isJoined_38 : decode cX2_isJoined 38 = .ok (.iadd, 1) := by decide +kernel
theorem dX2_isJoined_39 : decode cX2_isJoined 39 = .ok (.iload_n 2, 1) := by decide +kernel
theorem dX2_isJoined_40 : decode cX2_isJoined 40 = .ok (.invokestatic 62, 3) := by decide +kernel
theorem dX2_isJoined_43 : decode cX2_isJoined 43 = .ok (.istore 4, 2) := by decide +kernel
theorem dX2_isJoined_45 : decode cX2_isJoined 45 = .ok (.aload_n 0, 1) := by decide +kernel
theorem dX2_isJoined_46 : decode cX2_isJoined 46 = .ok (.getfield 18, 3) := by decide +kernel
theorem dX2_isJoined_49 : decode cX2_isJoined 49 = .ok (.iload_n 1, 1) := by decide +kernel
theorem dX2_isJoined_50 : decode cX2_isJoined 50 = .ok (.iload_n 2, 1) := by decide +kernel
theorem dX2_isJoined_51 : decode cX2_isJoined 51 = .ok (.invokestatic 62, 3) := by decide +kernel
theorem dX2_isJoined_54 : decode cX2_isJoined 54 = .ok (.iaload, 1) := by decide +kernel
theorem dX2_isJoined_55 : decode cX2_isJoined 55 = .ok (.aload_n 0, 1) := by decide +kernel
theorem dX2_isJoined_56 : decode cX2_isJoined 56 = .ok (.getfield 18, 3) := by decide +kernel
theorem dX2_isJoined_59 : decode cX2_isJoined 59 = .ok (.iload 4, 2) := by decide +kernel
theorem dX2_isJoined_61 : decode cX2_isJoined 61 = .ok (.iaload, 1) := by decide +kernel
theorem dX2_isJoined_62 : decode cX2_isJoined 62 = .ok (.if_icmp .ne 7, 3) := by decide +kernel
theorem dX2_isJoined_65 : decode cX2_isJoined 65 = .ok (.iconst 1, 1) := by decide +kernel
theorem dX2_isJoined_66 : decode cX2_isJoined 66 = .ok (.goto 4, 3) := by decide +kernel
theorem dX2_isJoined_69 : decode cX2_isJoined 69 = .ok (.iconst 0, 1) := by decide +kernel
theorem dX2_isJoined_70 : decode cX2_isJoined 70 = .ok (.ireturn, 1) := by decide +kernel
theorem dX2_joined_0 : decode cX2_joined 0 = .ok (.lconst 0, 1) := by decide +kernel
theorem dX2_joined_1 : decode cX2_joined 1 = .ok (.lstore_n 2, 1) := by decide +kernel
theorem dX2_joined_2 : decode cX2_joined 2 = .ok (.iconst 0, 1) := by decide +kernel
theorem dX2_joined_3 : decode cX2_joined 3 = .ok (.istore 4, 2) := by decide +kernel
theorem dX2_joined_5 : decode cX2_joined 5 = .ok (.iload 4, 2) := by decide +kernel
theorem dX2_joined_7 : decode cX2_joined 7 = .ok (.aload_n 0, 1) := by decide +kernel
theorem dX2_joined_8 : decode cX2_joined 8 = .ok (.getfield 7, 3) := by decide +kernel
theorem dX2_joined_11 : decode cX2_joined 11 = .ok (.if_icmp .ge 49, 3) := by decide +kernel
theorem dX2_joined_14 : decode cX2_joined 14 = .ok (.iconst 0, 1) := by decide +kernel
theorem dX2_joined_15 : decode cX2_joined 15 = .ok (.istore 5, 2) := by decide +kernel
theorem dX2_joined_17 : decode cX2_joined 17 = .ok (.iload 5, 2) := by decide +kernel
theorem dX2_joined_19 : decode cX2_joined 19 = .ok (.aload_n 0, 1) := by decide +kernel
theorem dX2_joined_20 : decode cX2_joined 20 = .ok (.getfield 13, 3) := by decide +kernel
theorem dX2_joined_23 : decode cX2_joined 23 = .ok (.if_icmp .ge 31, 3) := by decide +kernel
theorem dX2_joined_26 : decode cX2_joined 26 = .ok (.aload_n 0, 1) := by decide +kernel
theorem dX2_joined_27 : decode cX2_joined 27 = .ok (.iload 4, 2) := by decide +kernel
theorem dX2_joined_29 : decode cX2_joined 29 = .ok (.iload 5, 2) := by decide +kernel
theorem dX2_joined_31 : decode cX2_joined 31 = .ok (.iload_n 1, 1) := by decide +kernel
theorem dX2_joined_32 : decode cX2_joined 32 = .ok (.invokevirtual 66, 3) := by decide +kernel
theorem dX2_joined_35 : decode cX2_joined 35 = .ok (.ifCond .eq 13, 3) := by decide +kernel
theorem dX2_joined_38 : decode cX2_joined 38 = .ok (.lload_n 2, 1) := by decide +kernel
theorem dX2_joined_39 : decode cX2_joined 39 = .ok (.iload 4, 2) := by decide +kernel
theorem dX2_joined_41 : decode cX2_joined 41 = .ok (.iload 5, 2) := by decide +kernel
theorem dX2_joined_43 : decode cX2_joined 43 = .ok (.invokestatic 45, 3) := by decide +kernel
theorem dX2_joined_46 : decode cX2_joined 46 = .ok (.lor, 1) := by decide +kernel
theorem dX2_joined_47 : decode cX2_joined 47 = .ok (.lstore_n 2, 1) := by decide +kernel
theorem dX2_joined_48 : decode cX2_joined 48 = .ok (.iinc 5 1, 3) := by decide +kernel
theorem dX2_joined_51 : decode cX2_joined 51 = .ok (.goto (-34), 3) := by decide +kernel
theorem dX2_joined_54 : decode cX2_joined 54 = .ok (.iinc 4 1, 3) := by decide +kernel
theorem dX2_joined_57 : decode cX2_joined 57 = .ok (.goto (-52), 3) := by decide +kernel
theorem dX2_joined_60 : decode cX2_joined 60 = .ok (.lload_n 2, 1) := by decide +kernel
theorem dX2_joined_61 : decode cX2_joined 61 = .ok (.lreturn, 1) := by decide +kernel
theorem dX3_init_0 : decode cX3_init 0 = .ok (.aload_n 0, 1) := by decide +kernel
theorem dX3_init_1 : decode cX3_init 1 = .ok (.invokespecial 1, 3) := by decide +kernel
theorem dX3_init_4 : decode cX3_init 4 = .ok (.aload_n 0, 1) := by decide +kernel
theorem dX3_init_5 : decode cX3_init 5 = .ok (.bipush 8, 2) := by decide +kernel
theorem dX3_init_7 : decode cX3_init 7 = .ok (.anewarray 9, 3) := by decide +kernel
theorem dX3_init_10 : decode cX3_init 10 = .ok (.putfield 11, 3) := by decide +kernel
theorem dX3_init_13 : decode cX3_init 13 = .ok (.aload_n 0, 1) := by decide +kernel
theorem dX3_init_14 : decode cX3_init 14 = .ok (.iconst 0, 1) := by decide +kernel
theorem dX3_init_15 : decode cX3_init 15 = .ok (.putfield 15, 3) := by decide +kernel
theorem dX3_init_18 : decode cX3_init 18 = .ok (.aload_n 0, 1) := by decide +kernel
theorem dX3_init_19 : decode cX3_init 19 = .ok (.iconst 0, 1) := by decide +kernel
theorem dX3_init_20 : decode cX3_init 20 = .ok (.putfield 19, 3) := by decide +kernel
theorem dX3_init_23 : decode cX3_init 23 = .ok (.iconst 0, 1) := by decide +kernel
theorem dX3_init_24 : decode cX3_init 24 = .ok (.istore_n 1, 1) := by decide +kernel
theorem dX3_init_25 : decode cX3_init 25 = .ok (.iload_n 1, 1) := by decide +kernel
theorem dX3_init_26 : decode cX3_init 26 = .ok (.bipush 8, 2) := by decide +kernel
theorem dX3_init_28 : decode cX3_init 28 = .ok (.if_icmp .ge 22, 3) := by decide +kernel
theorem dX3_init_31 : decode cX3_init 31 = .ok (.aload_n 0, 1) := by decide +kernel
theorem dX3_init_32 : decode cX3_init 32 = .ok (.getfield 11, 3) := by decide +kernel
theorem dX3_init_35 : decode cX3_init 35 = .ok (.iload_n 1, 1) := by decide +kernel
theorem dX3_init_36 : decode cX3_init 36 = .ok (.new 9, 3) := by decide +kernel
theorem dX3_init_39 : decode cX3_init 39 = .ok (.dup, 1) := by decide +kernel
theorem dX3_init_40 : decode cX3_init 40 = .ok (.invokespecial 22, 3) := by decide +kernel
theorem dX3_init_43 : decode cX3_init 43 = .ok (.aastore, 1) := by decide +kernel
theorem dX3_init_44 : decode cX3_init 44 = .ok (.iinc 1 1, 3) := by decide +kernel
theorem dX3_init_47 : decode cX3_init 47 = .ok (.goto (-22), 3) := by decide +kernel
theorem dX3_init_50 : decode cX3_init 50 = .ok (.return_, 1) := by decide +kernel
theorem dX3_remember_0 : decode cX3_remember 0 = .ok (.aload_n 0, 1) := by decide +kernel
theorem dX3_remember_1 : decode cX3_remember 1 = .ok (.getfield 11, 3) := by decide +kernel
theorem dX3_remember_4 : decode cX3_remember 4 = .ok (.aload_n 0, 1) := by decide +kernel
theorem dX3_remember_5 : decode cX3_remember 5 = .ok (.getfield 15, 3) := by decide +kernel
theorem dX3_remember_8 : decode cX3_remember 8 = .ok (.aaload, 1) := by decide +kernel
theorem dX3_remember_9 : decode cX3_remember 9 = .ok (.aload_n 1, 1) := by decide +kernel
theorem dX3_remember_10 : decode cX3_remember 10 = .ok (.invokevirtual 23, 3) := by decide +kernel
theorem dX3_remember_13 : decode cX3_remember 13 = .ok (.aload_n 0, 1) := by decide +kernel
theorem dX3_remember_14 : decode cX3_remember 14 = .ok (.aload_n 0, 1) := by decide +kernel
theorem dX3_remember_15 : decode cX3_remember 15 = .ok (.getfield 15, 3) := by decide +kernel
theorem dX3_remember_18 : decode cX3_remember 18 = .ok (.iconst 1, 1) := by decide +kernel
theorem dX3_remember_19 : decode cX3_remember 19 = .ok (.iadd, 1) := by decide +kernel
theorem dX3_remember_20 : decode cX3_remember 20 = .ok (.bipush 8, 2) := by decide +kernel
theorem dX3_remember_22 : decode cX3_remember 22 = .ok (.irem, 1) := by decide +kernel
theorem dX3_remember_23 : decode cX3_remember 23 = .ok (.putfield 15, 3) := by decide +kernel
theorem dX3_remember_26 : decode cX3_remember 26 = .ok (.aload_n 0, 1) := by decide +kernel
theorem dX3_remember_27 : decode cX3_remember 27 = .ok (.aload_n 0, 1) := by decide +kernel
theorem dX3_remember_28 : decode cX3_remember 28 = .ok (.getfield 19, 3) := by decide +kernel
theorem dX3_remember_31 : decode cX3_remember 31 = .ok (.iconst 1, 1) := by decide +kernel
theorem dX3_remember_32 : decode cX3_remember 32 = .ok (.iadd, 1) := by decide +kernel
theorem dX3_remember_33 : decode cX3_remember 33 = .ok (.bipush 8, 2) := by decide +kernel
theorem dX3_remember_35 : decode cX3_remember 35 = .ok (.invokestatic 27, 3) := by decide +kernel
theorem dX3_remember_38 : decode cX3_remember 38 = .ok (.putfield 19, 3) := by decide +kernel
theorem dX3_remember_41 : decode cX3_remember 41 = .ok (.return_, 1) := by decide +kernel
theorem dX3_restore_0 : decode cX3_restore 0 = .ok (.aload_n 0, 1) := by decide +kernel
theorem dX3_restore_1 : decode cX3_restore 1 = .ok (.aload_n 0, 1) := by decide +kernel
theorem dX3_restore_2 : decode cX3_restore 2 = .ok (.getfield 15, 3) := by decide +kernel
theorem dX3_restore_5 : decode cX3_restore 5 = .ok (.bipush 8, 2) := by decide +kernel
theorem dX3_restore_7 : decode cX3_restore 7 = .ok (.iadd, 1) := by decide +kernel
theorem dX3_restore_8 : decode cX3_restore 8 = .ok (.iconst 1, 1) := by decide +kernel
theorem dX3_restore_9 : decode cX3_restore 9 = .ok (.isub, 1) := by decide +kernel
theorem dX3_restore_10 : decode cX3_restore 10 = .ok (.bipush 8, 2) := by decide +kernel
theorem dX3_restore_12 : decode cX3_restore 12 = .ok (.irem, 1) := by decide +kernel
theorem dX3_restore_13 : decode cX3_restore 13 = .ok (.putfield 15, 3) := by decide +kernel
theorem dX3_restore_16 : decode cX3_restore 16 = .ok (.aload_n 1, 1) := by decide +kernel
theorem dX3_restore_17 : decode cX3_restore 17 = .ok (.aload_n 0, 1) := by decide +kernel
theorem dX3_restore_18 : decode cX3_restore 18 = .ok (.getfield 11, 3) := by decide +kernel
theorem dX3_restore_21 : decode cX3_restore 21 = .ok (.aload_n 0, 1) := by decide +kernel
theorem dX3_restore_22 : decode cX3_restore 22 = .ok (.getfield 15, 3) := by decide +kernel
theorem dX3_restore_25 : decode cX3_restore 25 = .ok (.aaload, 1) := by decide +kernel
theorem dX3_restore_26 : decode cX3_restore 26 = .ok (.invokevirtual 23, 3) := by decide +kernel
theorem dX3_restore_29 : decode cX3_restore 29 = .ok (.aload_n 0, 1) := by decide +kernel
theorem dX3_restore_30 : decode cX3_restore 30 = .ok (.dup, 1) := by decide +kernel
theorem dX3_restore_31 : decode cX3_restore 31 = .ok (.getfield 19, 3) := by decide +kernel
theorem dX3_restore_34 : decode cX3_restore 34 = .ok (.iconst 1, 1) := by decide +kernel
theorem dX3_restore_35 : decode cX3_restore 35 = .ok (.isub, 1) := by decide +kernel
theorem dX3_restore_36 : decode cX3_restore 36 = .ok (.putfield 19, 3) := by decide +kernel
theorem dX3_restore_39 : decode cX3_restore 39 = .ok (.return_, 1) := by decide +kernel
theorem dX4_init_0 : decode cX4_init 0 = .ok (.aload_n 0, 1) := by decide +kernel
theorem dX4_init_1 : decode cX4_init 1 = .ok (.invokespecial 1, 3) := by decide +kernel
theorem dX4_init_4 : decode cX4_init 4 = .ok (.aload_n 0, 1) := by decide +kernel
theorem dX4_init_5 : decode cX4_init 5 = .ok (.lconst 0, 1) := by decide +kernel
theorem dX4_init_6 : decode cX4_init 6 = .ok (.putfield 7, 3) := by decide +kernel
theorem dX4_init_9 : decode cX4_init 9 = .ok (.aload_n 0, 1) := by decide +kernel
theorem dX4_init_10 : decode cX4_init 10 = .ok (.lconst 0, 1) := by decide +kernel
theorem dX4_init_11 : decode cX4_init 11 = .ok (.putfield 13, 3) := by decide +kernel
theorem dX4_init_14 : decode cX4_init 14 = .ok (.aload_n 0, 1) := by decide +kernel
theorem dX4_init_15 : decode cX4_init 15 = .ok (.lconst 0, 1) := by decide +kernel
theorem dX4_init_16 : decode cX4_init 16 = .ok (.putfield 16, 3) := by decide +kernel
theorem dX4_init_19 : decode cX4_init 19 = .ok (.aload_n 0, 1) := by decide +kernel
theorem dX4_init_20 : decode cX4_init 20 = .ok (.iconst 0, 1) := by decide +kernel
theorem dX4_init_21 : decode cX4_init 21 = .ok (.putfield 19, 3) := by decide +kernel
theorem dX4_init_24 : decode cX4_init 24 = .ok (.aload_n 0, 1) := by decide +kernel
theorem dX4_init_25 : decode cX4_init 25 = .ok (.bipush 49, 2) := by decide +kernel
theorem dX4_init_27 : decode cX4_init 27 = .ok (.newarray .long, 2) := by decide +kernel
theorem dX4_init_29 : decode cX4_init 29 = .ok (.putfield 25, 3) := by decide +kernel
theorem dX4_init_32 : decode cX4_init 32 = .ok (.aload_n 0, 1) := by decide +kernel
theorem dX4_init_33 : decode cX4_init 33 = .ok (.bipush 49, 2) := by decide +kernel
theorem dX4_init_35 : decode cX4_init 35 = .ok (.newarray .long, 2) := by decide +kernel
theorem dX4_init_37 : decode cX4_init 37 = .ok (.putfield 29, 3) := by decide +kernel
theorem dX4_init_40 : decode cX4_init 40 = .ok (.aload_n 0, 1) := by decide +kernel
theorem dX4_init_41 : decode cX4_init 41 = .ok (.aload_n 1, 1) := by decide +kernel
theorem dX4_init_42 : decode cX4_init 42 = .ok (.putfield 32, 3) := by decide +kernel
theorem dX4_init_45 : decode cX4_init 45 = .ok (.return_, 1) := by decide +kernel
theorem dX4_find_0 : decode cX4_find 0 = .ok (.aload_n 0, 1) := by decide +kernel
theorem dX4_find_1 : decode cX4_find 1 = .ok (.iconst 0, 1) := by decide +kernel
theorem dX4_find_2 : decode cX4_find 2 = .ok (.aload_n 0, 1) := by decide +kernel
theorem dX4_find_3 : decode cX4_find 3 = .ok (.getfield 32, 3) := by decide +kernel
theorem dX4_find_6 : decode cX4_find 6 = .ok (.getfield 36, 3) := by decide +kernel
theorem dX4_find_9 : decode cX4_find 9 = .ok (.iconst 1, 1) := by decide +kernel
theorem dX4_find_10 : decode cX4_find 10 = .ok (.isub, 1) := by decide +kernel
theorem dX4_find_11 : decode cX4_find 11 = .ok (.iconst 0, 1) := by decide +kernel
theorem dX4_find_12 : decode cX4_find 12 = .ok (.aload_n 0, 1) := by decide +kernel
theorem dX4_find_13 : decode cX4_find 13 = .ok (.getfield 32, 3) := by decide +kernel
theorem dX4_find_16 : decode cX4_find 16 = .ok (.getfield 41, 3) := by decide +kernel
theorem dX4_find_19 : decode cX4_find 19 = .ok (.iconst 1, 1) := by decide +kernel
theorem dX4_find_20 : decode cX4_find 20 = .ok (.isub, 1) := by decide +kernel
theorem dX4_find_21 : decode cX4_find 21 = .ok (.invokestatic 44, 3) := by decide +kernel
theorem dX4_find_24 : decode cX4_find 24 = .ok (.putfield 7, 3) := by decide +kernel
theorem dX4_find_27 : decode cX4_find 27 = .ok (.aload_n 0, 1) := by decide +kernel
theorem dX4_find_28 : decode cX4_find 28 = .ok (.aload_n 0, 1) := by decide +kernel
theorem dX4_find_29 : decode cX4_find 29 = .ok (.getfield 32, 3) := by decide +kernel
theorem dX4_find_32 : decode cX4_find 32 = .ok (.iconst 0, 1) := by decide +kernel
theorem dX4_find_33 : decode cX4_find 33 = .ok (.invokevirtual 48, 3) := by decide +kernel
theorem dX4_find_36 : decode cX4_find 36 = .ok (.putfield 13, 3) := by decide +kernel
theorem dX4_find_39 : decode cX4_find 39 = .ok (.aload_n 0, 1) := by decide +kernel
theorem dX4_find_40 : decode cX4_find 40 = .ok (.aload_n 0, 1) := by decide +kernel
theorem dX4_find_41 : decode cX4_find 41 = .ok (.getfield 32, 3) := by decide +kernel
theorem dX4_find_44 : decode cX4_find 44 = .ok (.iconst 1, 1) := by decide +kernel
theorem dX4_find_45 : decode cX4_find 45 = .ok (.invokevirtual 48, 3) := by decide +kernel
theorem dX4_find_48 : decode cX4_find 48 = .ok (.putfield 16, 3) := by decide +kernel
theorem dX4_find_51 : decode cX4_find 51 = .ok (.aload_n 0, 1) := by decide +kernel
theorem dX4_find_52 : decode cX4_find 52 = .ok (.iconst 0, 1) := by decide +kernel
theorem dX4_find_53 : decode cX4_find 53 = .ok (.putfield 19, 3) := by decide +kernel
theorem dX4_find_56 : decode cX4_find 56 = .ok (.aload_n 0, 1) := by decide +kernel
theorem dX4_find_57 : decode cX4_find 57 = .ok (.getfield 7, 3) := by decide +kernel
theorem dX4_find_60 : decode cX4_find 60 = .ok (.lstore_n 1, 1) := by decide +kernel
theorem dX4_find_61 : decode cX4_find 61 = .ok (.iconst 0, 1) := by decide +kernel
theorem dX4_find_62 : decode cX4_find 62 = .ok (.istore_n 3, 1) := by decide +kernel
theorem dX4_find_63 : decode cX4_find 63 = .ok (.iload_n 3, 1) := by decide +kernel
theorem dX4_find_64 : decode cX4_find 64 = .ok (.bipush 49, 2) := by decide +kernel
theorem dX4_find_66 : decode cX4_find 66 = .ok (.if_icmp .ge 56, 3) := by decide +kernel
theorem dX4_find_69 : decode cX4_find 69 = .ok (.lload_n 1, 1) := by decide +kernel
theorem dX4_find_70 : decode cX4_find 70 = .ok (.lconst 0, 1) := by decide +kernel
theorem dX4_find_71 : decode cX4_find 71 = .ok (.lcmp, 1) := by decide +kernel
theorem dX4_find_72 : decode cX4_find 72 = .ok (.ifCond .eq 50, 3) := by decide +kernel
theorem dX4_find_75 : decode cX4_find 75 = .ok (.aload_n 0, 1) := by decide +kernel
theorem dX4_find_76 : decode cX4_find 76 = .ok (.getfield 25, 3) := by decide +kernel
theorem dX4_find_79 : decode cX4_find 79 = .ok (.iload_n 3, 1) := by decide +kernel
theorem dX4_find_80 : decode cX4_find 80 = .ok (.aload_n 0, 1) := by decide +kernel
theorem dX4_find_81 : decode cX4_find 81 = .ok (.lload_n 1, 1) := by decide +kernel
theorem dX4_find_82 : decode cX4_find 82 = .ok (.invokestatic 52, 3) := by decide +kernel
theorem dX4_find_85 : decode cX4_find 85 = .ok (.aload_n 0, 1) := by decide +kernel
theorem dX4_find_86 : decode cX4_find 86 = .ok (.getfield 7, 3) := by decide +kernel
theorem dX4_find_89 : decode cX4_find 89 = .ok (.invokevirtual 56, 3) := by decide +kernel
theorem dX4_find_92 : decode cX4_find 92 = .ok (.lastore, 1) := by decide +kernel
theorem dX4_find_93 : decode cX4_find 93 = .ok (.lload_n 1, 1) := by decide +kernel
theorem dX4_find_94 : decode cX4_find 94 = .ok (.aload_n 0, 1) := by decide +kernel
theorem dX4_find_95 : decode cX4_find 95 = .ok (.getfield 25, 3) := by decide +kernel
theorem dX4_find_98 : decode cX4_find 98 = .ok (.iload_n 3, 1) := by decide +kernel
theorem dX4_find_99 : decode cX4_find 99 = .ok (.laload, 1) := by decide +kernel
theorem dX4_find_100 : decode cX4_find 100 = .ok (.ldc2_w 60, 3) := by decide +kernel
theorem dX4_find_103 : decode cX4_find 103 = .ok (.lxor, 1) := by decide +kernel
theorem dX4_find_104 : decode cX4_find 104 = .ok (.land, 1) := by decide +kernel
theorem dX4_find_105 : decode cX4_find 105 = .ok (.lstore_n 1, 1) := by decide +kernel
theorem dX4_find_106 : decode cX4_find 106 = .ok (.aload_n 0, 1) := by decide +kernel
theorem dX4_find_107 : decode cX4_find 107 = .ok (.dup, 1) := by decide +kernel
theorem dX4_find_108 : decode cX4_find 108 = .ok (.getfield 19, 3) := by decide +kernel
theorem dX4_find_111 : decode cX4_find 111 = .ok (.iconst 1, 1) := by decide +kernel
theorem dX4_find_112 : decode cX4_find 112 = .ok (.iadd, 1) := by decide +kernel
theorem dX4_find_113 : decode cX4_find 113 = .ok (.putfield 19, 3) := by decide +kernel
theorem dX4_find_116 : decode cX4_find 116 = .ok (.iinc 3 1, 3) := by decide +kernel
theorem dX4_find_119 : decode cX4_find 119 = .ok (.goto (-56), 3) := by decide +kernel
theorem dX4_find_122 : decode cX4_find 122 = .ok (.iconst 0, 1) := by decide +kernel
theorem dX4_find_123 : decode cX4_find 123 = .ok (.istore_n 3, 1) := by decide +kernel
theorem dX4_find_124 : decode cX4_find 124 = .ok (.iload_n 3, 1) := by decide +kernel
theorem dX4_find_125 : decode cX4_find 125 = .ok (.aload_n 0, 1) := by decide +kernel
theorem dX4_find_126 : decode cX4_find 126 = .ok (.getfield 19, 3) := by decide +kernel
theorem dX4_find_129 : decode cX4_find 129 = .ok (.if_icmp .ge 20, 3) := by decide +kernel
theorem dX4_find_132 : decode cX4_find 132 = .ok (.aload_n 0, 1) := by decide +kernel
theorem dX4_find_133 : decode cX4_find 133 = .ok (.getfield 29, 3) := by decide +kernel
theorem dX4_find_136 : decode cX4_find 136 = .ok (.iload_n 3, 1) := by decide +kernel
theorem dX4_find_137 : decode cX4_find 137 = .ok (.aload_n 0, 1) := by decide +kernel
theorem dX4_find_138 : decode cX4_find 138 = .ok (.iload_n 3, 1) := by decide +kernel
theorem dX4_find_139 : decode cX4_find 139 = .ok (.invokevirtual 62, 3) := by decide +kernel
theorem dX4_find_142 : decode cX4_find 142 = .ok (.lastore, 1) := by decide +kernel
theorem dX4_find_143 : decode cX4_find 143 = .ok (.iinc 3 1, 3) := by decide +kernel
theorem dX4_find_146 : decode cX4_find 146 = .ok (.goto (-22), 3) := by decide +kernel
theorem dX4_find_149 : decode cX4_find 149 = .ok (.return_, 1) := by decide +kernel
theorem dX4_fragment_0 : decode cX4_fragment 0 = .ok (.lload_n 1, 1) := by decide +kernel
theorem dX4_fragment_1 : decode cX4_fragment 1 = .ok (.lstore 5, 2) := by decide +kernel
theorem dX4_fragment_3 : decode cX4_fragment 3 = .ok (.iconst 0, 1) := by decide +kernel
theorem dX4_fragment_4 : decode cX4_fragment 4 = .ok (.istore 7, 2) := by decide +kernel
theorem dX4_fragment_6 : decode cX4_fragment 6 = .ok (.iload 7, 2) := by decide +kernel
theorem dX4_fragment_8 : decode cX4_fragment 8 = .ok (.bipush 49, 2) := by decide +kernel
theorem dX4_fragment_10 : decode cX4_fragment 10 = .ok (.if_icmp .ge 76, 3) := by decide +kernel
theorem dX4_fragment_13 : decode cX4_fragment 13 = .ok (.lload 5, 2) := by decide +kernel
theorem dX4_fragment_15 : decode cX4_fragment 15 = .ok (.lload 5, 2) := by decide +kernel
theorem dX4_fragment_17 : decode cX4_fragment 17 = .ok (.aload_n 0, 1) := by decide +kernel
theorem dX4_fragment_18 : decode cX4_fragment 18 = .ok (.getfield 13, 3) := by decide +kernel
theorem dX4_fragment_21 : decode cX4_fragment 21 = .ok (.land, 1) := by decide +kernel
theorem dX4_fragment_22 : decode cX4_fragment 22 = .ok (.iconst 1, 1) := by decide +kernel
theorem dX4_fragment_23 : decode cX4_fragment 23 = .ok (.lshl, 1) := by decide +kernel
theorem dX4_fragment_24 : decode cX4_fragment 24 = .ok (.lor, 1) := by decide +kernel
theorem dX4_fragment_25 : decode cX4_fragment 25 = .ok (.lload 5, 2) := by decide +kernel
theorem dX4_fragment_27 : decode cX4_fragment 27 = .ok (.iconst 1, 1) := by decide +kernel
theorem dX4_fragment_28 : decode cX4_fragment 28 = .ok (.lushr, 1) := by decide +kernel
theorem dX4_fragment_29 : decode cX4_fragment 29 = .ok (.aload_n 0, 1) := by decide +kernel
theorem dX4_fragment_30 : decode cX4_fragment 30 = .ok (.getfield 13, 3) := by decide +kernel
theorem dX4_fragment_33 : decode cX4_fragment 33 = .ok (.land, 1) := by decide +kernel
theorem dX4_fragment_34 : decode cX4_fragment 34 = .ok (.lor, 1) := by decide +kernel
theorem dX4_fragment_35 : decode cX4_fragment 35 = .ok (.lload 5, 2) := by decide +kernel
theorem dX4_fragment_37 : decode cX4_fragment 37 = .ok (.aload_n 0, 1) := by decide +kernel
theorem dX4_fragment_38 : decode cX4_fragment 38 = .ok (.getfield 16, 3) := by decide +kernel
theorem dX4_fragment_41 : decode cX4_fragment 41 = .ok (.land, 1) := by decide +kernel
theorem dX4_fragment_42 : decode cX4_fragment 42 = .ok (.bipush 8, 2) := by decide +kernel
theorem dX4_fragment_44 : decode cX4_fragment 44 = .ok (.lshl, 1) := by decide +kernel
theorem dX4_fragment_45 : decode cX4_fragment 45 = .ok (.lor, 1) := by decide +kernel
theorem dX4_fragment_46 : decode cX4_fragment 46 = .ok (.lload 5, 2) := by decide +kernel
theorem dX4_fragment_48 : decode cX4_fragment 48 = .ok (.bipush 8, 2) := by decide +kernel
theorem dX4_fragment_50 : decode cX4_fragment 50 = .ok (.lushr, 1) := by decide +kernel
theorem dX4_fragment_51 : decode cX4_fragment 51 = .ok (.aload_n 0, 1) := by decide +kernel
theorem dX4_fragment_52 : decode cX4_fragment 52 = .ok (.getfield 16, 3) := by decide +kernel
theorem dX4_fragment_55 : decode cX4_fragment 55 = .ok (.land, 1) := by decide +kernel
theorem dX4_fragment_56 : decode cX4_fragment 56 = .ok (.lor, 1) := by decide +kernel
theorem dX4_fragment_57 : decode cX4_fragment 57 = .ok (.lstore 8, 2) := by decide +kernel
theorem dX4_fragment_59 : decode cX4_fragment 59 = .ok (.lload 8, 2) := by decide +kernel
theorem dX4_fragment_61 : decode cX4_fragment 61 = .ok (.lload_n 3, 1) := by decide +kernel
theorem dX4_fragment_62 : decode cX4_fragment 62 = .ok (.land, 1) := by decide +kernel
theorem dX4_fragment_63 : decode cX4_fragment 63 = .ok (.lstore 8, 2) := by decide +kernel
theorem dX4_fragment_65 : decode cX4_fragment 65 = .ok (.lload 8, 2) := by decide +kernel
theorem dX4_fragment_67 : decode cX4_fragment 67 = .ok (.lload 5, 2) := by decide +kernel
theorem dX4_fragment_69 : decode cX4_fragment 69 = .ok (.lcmp, 1) := by decide +kernel
theorem dX4_fragment_70 : decode cX4_fragment 70 = .ok (.ifCond .ne 6, 3) := by decide +kernel
theorem dX4_fragment_73 : decode cX4_fragment 73 = .ok (.goto 13, 3) := by decide +kernel
theorem dX4_fragment_76 : decode cX4_fragment 76 = .ok (.lload 8, 2) := by decide +kernel
theorem dX4_fragment_78 : decode cX4_fragment 78 = .ok (.lstore 5, 2) := by decide +kernel
theorem dX4_fragment_80 : decode cX4_fragment 80 = .ok (.iinc 7 1, 3) := by decide +kernel
theorem dX4_fragment_83 : decode cX4_fragment 83 = .ok (.goto (-77), 3) := by decide +kernel
theorem dX4_fragment_86 : decode cX4_fragment 86 = .ok (.lload 5, 2) := by decide +kernel
theorem dX4_fragment_88 : decode cX4_fragment 88 = .ok (.lreturn, 1) := by decide +kernel
theorem dX4_touching_0 : decode cX4_touching 0 = .ok (.aload_n 0, 1) := by decide +kernel
theorem dX4_touching_1 : decode cX4_touching 1 = .ok (.getfield 25, 3) := by decide +kernel
theorem dX4_touching_4 : decode cX4_touching 4 = .ok (.iload_n 1, 1) := by decide +kernel
theorem dX4_touching_5 : decode cX4_touching 5 = .ok (.laload, 1) := by decide +kernel
theorem dX4_touching_6 : decode cX4_touching 6 = .ok (.invokestatic 65, 3) := by decide +kernel
theorem dX4_touching_9 : decode cX4_touching 9 = .ok (.lstore_n 2, 1) := by decide +kernel
theorem dX4_touching_10 : decode cX4_touching 10 = .ok (.lconst 0, 1) := by decide +kernel
theorem dX4_touching_11 : decode cX4_touching 11 = .ok (.lstore 4, 2) := by decide +kernel
theorem dX4_touching_13 : decode cX4_touching 13 = .ok (.iconst 0, 1) := by decide +kernel
theorem dX4_touching_14 : decode cX4_touching 14 = .ok (.istore 6, 2) := by decide +kernel
theorem dX4_touching_16 : decode cX4_touching 16 = .ok (.iload 6, 2) := by decide +kernel
theorem dX4_touching_18 : decode cX4_touching 18 = .ok (.aload_n 0, 1) := by decide +kernel
theorem dX4_touching_19 : decode cX4_touching 19 = .ok (.getfield 19, 3) := by decide +kernel
theorem dX4_touching_22 : decode cX4_touching 22 = .ok (.if_icmp .ge 38, 3) := by decide +kernel
theorem dX4_touching_25 : decode cX4_touching 25 = .ok (.iload 6, 2) := by decide +kernel
theorem dX4_touching_27 : decode cX4_touching 27 = .ok (.iload_n 1, 1) := by decide +kernel
theorem dX4_touching_28 : decode cX4_touching 28 = .ok (.if_icmp .eq 26, 3) := by decide +kernel
theorem dX4_touching_31 : decode cX4_touching 31 = .ok (.aload_n 0, 1) := by decide +kernel
theorem dX4_touching_32 : decode cX4_touching 32 = .ok (.getfield 25, 3) := by decide +kernel
theorem dX4_touching_35 : decode cX4_touching 35 = .ok (.iload 6, 2) := by decide +kernel
theorem dX4_touching_37 : decode cX4_touching 37 = .ok (.laload, 1) := by decide +kernel
theorem dX4_touching_38 : decode cX4_touching 38 = .ok (.lload_n 2, 1) := by decide +kernel
theorem dX4_touching_39 : decode cX4_touching 39 = .ok (.land, 1) := by decide +kernel
theorem dX4_touching_40 : decode cX4_touching 40 = .ok (.lconst 0, 1) := by decide +kernel
theorem dX4_touching_41 : decode cX4_touching 41 = .ok (.lcmp, 1) := by decide +kernel
theorem dX4_touching_42 : decode cX4_touching 42 = .ok (.ifCond .eq 12, 3) := by decide +kernel
theorem dX4_touching_45 : decode cX4_touching 45 = .ok (.lload 4, 2) := by decide +kernel
theorem dX4_touching_47 : decode cX4_touching 47 = .ok (.lconst 1, 1) := by decide +kernel
theorem dX4_touching_48 : decode cX4_touching 48 = .ok (.iload 6, 2) := by decide +kernel
theorem dX4_touching_50 : decode cX4_touching 50 = .ok (.lshl, 1) := by decide +kernel
theorem dX4_touching_51 : decode cX4_touching 51 = .ok (.lor, 1) := by decide +kernel
theorem dX4_touching_52 : decode cX4_touching 52 = .ok (.lstore 4, 2) := by decide +kernel
theorem dX4_touching_54 : decode cX4_touching 54 = .ok (.iinc 6 1, 3) := by decide +kernel
theorem dX4_touching_57 : decode cX4_touching 57 = .ok (.goto (-41), 3) := by decide +kernel
theorem dX4_touching_60 : decode cX4_touching 60 = .ok (.lload 4, 2) := by decide +kernel
theorem dX4_touching_62 : decode cX4_touching 62 = .ok (.lreturn, 1) := by decide +kernel
theorem dX4_hasPane_0 : decode cX4_hasPane 0 = .ok (.iload_n 1, 1) := by decide +kernel
theorem dX4_hasPane_1 : decode cX4_hasPane 1 = .ok (.ifCond .lt 15, 3) := by decide +kernel
theorem dX4_hasPane_4 : decode cX4_hasPane 4 = .ok (.iload_n 1, 1) := by decide +kernel
theorem dX4_hasPane_5 : decode cX4_hasPane 5 = .ok (.aload_n 0, 1) := by decide +kernel
theorem dX4_hasPane_6 : decode cX4_hasPane 6 = .ok (.getfield 19, 3) := by decide +kernel
theorem dX4_hasPane_9 : decode cX4_hasPane 9 = .ok (.if_icmp .ge 7, 3) := by decide +kernel
theorem dX4_hasPane_12 : decode cX4_hasPane 12 = .ok (.iconst 1, 1) := by decide +kernel
theorem dX4_hasPane_13 : decode cX4_hasPane 13 = .ok (.goto 4, 3) := by decide +kernel
theorem dX4_hasPane_16 : decode cX4_hasPane 16 = .ok (.iconst 0, 1) := by decide +kernel
theorem dX4_hasPane_17 : decode cX4_hasPane 17 = .ok (.ireturn, 1) := by decide +kernel
theorem dX4_everyPane_0 : decode cX4_everyPane 0 = .ok (.lconst 1, 1) := by decide +kernel
theorem dX4_everyPane_1 : decode cX4_everyPane 1 = .ok (.aload_n 0, 1) := by decide +kernel
theorem dX4_everyPane_2 : decode cX4_everyPane 2 = .ok (.getfield 19, 3) := by decide +kernel
theorem dX4_everyPane_5 : decode cX4_everyPane 5 = .ok (.lshl, 1) := by decide +kernel
theorem dX4_everyPane_6 : decode cX4_everyPane 6 = .ok (.lconst 1, 1) := by decide +kernel
theorem dX4_everyPane_7 : decode cX4_everyPane 7 = .ok (.lsub, 1) := by decide +kernel
theorem dX4_everyPane_8 : decode cX4_everyPane 8 = .ok (.lreturn, 1) := by decide +kernel
theorem dX4_numberOf_0 : decode cX4_numberOf 0 = .ok (.iconst 0, 1) := by decide +kernel
theorem dX4_numberOf_1 : decode cX4_numberOf 1 = .ok (.istore_n 3, 1) := by decide +kernel
theorem dX4_numberOf_2 : decode cX4_numberOf 2 = .ok (.iconst 0, 1) := by decide +kernel
theorem dX4_numberOf_3 : decode cX4_numberOf 3 = .ok (.istore 4, 2) := by decide +kernel
theorem dX4_numberOf_5 : decode cX4_numberOf 5 = .ok (.iload 4, 2) := by decide +kernel
theorem dX4_numberOf_7 : decode cX4_numberOf 7 = .ok (.aload_n 0, 1) := by decide +kernel
theorem dX4_numberOf_8 : decode cX4_numberOf 8 = .ok (.getfield 19, 3) := by decide +kernel
theorem dX4_numberOf_11 : decode cX4_numberOf 11 = .ok (.if_icmp .ge 26, 3) := by decide +kernel
theorem dX4_numberOf_14 : decode cX4_numberOf 14 = .ok (.aload_n 0, 1) := by decide +kernel
theorem dX4_numberOf_15 : decode cX4_numberOf 15 = .ok (.getfield 25, 3) := by decide +kernel
theorem dX4_numberOf_18 : decode cX4_numberOf 18 = .ok (.iload 4, 2) := by decide +kernel
theorem dX4_numberOf_20 : decode cX4_numberOf 20 = .ok (.laload, 1) := by decide +kernel
theorem dX4_numberOf_21 : decode cX4_numberOf 21 = .ok (.lload_n 1, 1) := by decide +kernel
theorem dX4_numberOf_22 : decode cX4_numberOf 22 = .ok (.land, 1) := by decide +kernel
theorem dX4_numberOf_23 : decode cX4_numberOf 23 = .ok (.lconst 0, 1) := by decide +kernel
theorem dX4_numberOf_24 : decode cX4_numberOf 24 = .ok (.lcmp, 1) := by decide +kernel
theorem dX4_numberOf_25 : decode cX4_numberOf 25 = .ok (.ifCond .eq 6, 3) := by decide +kernel
theorem dX4_numberOf_28 : decode cX4_numberOf 28 = .ok (.iload 4, 2) := by decide +kernel
theorem dX4_numberOf_30 : decode cX4_numberOf 30 = .ok (.istore_n 3, 1) := by decide +kernel
theorem dX4_numberOf_31 : decode cX4_numberOf 31 = .ok (.iinc 4 1, 3) := by decide +kernel
theorem dX4_numberOf_34 : decode cX4_numberOf 34 = .ok (.goto (-29), 3) := by decide +kernel
theorem dX4_numberOf_37 : decode cX4_numberOf 37 = .ok (.iload_n 3, 1) := by decide +kernel
theorem dX4_numberOf_38 : decode cX4_numberOf 38 = .ok (.ireturn, 1) := by decide +kernel
theorem dX4_isEasy_0 : decode cX4_isEasy 0 = .ok (.lload_n 1, 1) := by decide +kernel
theorem dX4_isEasy_1 : decode cX4_isEasy 1 = .ok (.invokestatic 68, 3) := by decide +kernel
theorem dX4_isEasy_4 : decode cX4_isEasy 4 = .ok (.aload_n 0, 1) := by decide +kernel
theorem dX4_isEasy_5 : decode cX4_isEasy 5 = .ok (.getfield 32, 3) := by decide +kernel
theorem dX4_isEasy_8 : decode cX4_isEasy 8 = .ok (.getfield 74, 3) := by decide +kernel
theorem dX4_isEasy_11 : decode cX4_isEasy 11 = .ok (.if_icmp .gt 32, 3) := by decide +kernel
theorem dX4_isEasy_14 : decode cX4_isEasy 14 = .ok (.lload_n 1, 1) := by decide +kernel
theorem dX4_isEasy_15 : decode cX4_isEasy 15 = .ok (.invokestatic 77, 3) := by decide +kernel
theorem dX4_isEasy_18 : decode cX4_isEasy 18 = .ok (.aload_n 0, 1) := by decide +kernel
theorem dX4_isEasy_19 : decode cX4_isEasy 19 = .ok (.getfield 32, 3) := by decide +kernel
theorem dX4_isEasy_22 : decode cX4_isEasy 22 = .ok (.getfield 80, 3) := by decide +kernel
theorem dX4_isEasy_25 : decode cX4_isEasy 25 = .ok (.if_icmp .gt 18, 3) := by decide +kernel
theorem dX4_isEasy_28 : decode cX4_isEasy 28 = .ok (.lload_n 1, 1) := by decide +kernel
theorem dX4_isEasy_29 : decode cX4_isEasy 29 = .ok (.aload_n 0, 1) := by decide +kernel
theorem dX4_isEasy_30 : decode cX4_isEasy 30 = .ok (.getfield 7, 3) := by decide +kernel
theorem dX4_isEasy_33 : decode cX4_isEasy 33 = .ok (.invokestatic 83, 3) := by decide +kernel
theorem dX4_isEasy_36 : decode cX4_isEasy 36 = .ok (.ifCond .ne 7, 3) := by decide +kernel
theorem dX4_isEasy_39 : decode cX4_isEasy 39 = .ok (.iconst 1, 1) := by decide +kernel
theorem dX4_isEasy_40 : decode cX4_isEasy 40 = .ok (.goto 4, 3) := by decide +kernel
theorem dX4_isEasy_43 : decode cX4_isEasy 43 = .ok (.iconst 0, 1) := by decide +kernel
theorem dX4_isEasy_44 : decode cX4_isEasy 44 = .ok (.ireturn, 1) := by decide +kernel
theorem dX4_countEasyFragments_0 : decode cX4_countEasyFragments 0 = .ok (.iconst 0, 1) := by decide +kernel
theorem dX4_countEasyFragments_1 : decode cX4_countEasyFragments 1 = .ok (.istore_n 3, 1) := by decide +kernel
theorem dX4_countEasyFragments_2 : decode cX4_countEasyFragments 2 = .ok (.lload_n 1, 1) := by decide +kernel
theorem dX4_countEasyFragments_3 : decode cX4_countEasyFragments 3 = .ok (.lstore 4, 2) := by decide +kernel
theorem dX4_countEasyFragments_5 : decode cX4_countEasyFragments 5 = .ok (.iconst 0, 1) := by decide +kernel
theorem dX4_countEasyFragments_6 : decode cX4_countEasyFragments 6 = .ok (.istore 6, 2) := by decide +kernel
theorem dX4_countEasyFragments_8 : decode cX4_countEasyFragments 8 = .ok (.iload 6, 2) := by decide +kernel
theorem dX4_countEasyFragments_10 : decode cX4_countEasyFragments 10 = .ok (.bipush 49, 2) := by decide +kernel
theorem dX4_countEasyFragments_12 : decode cX4_countEasyFragments 12 = .ok (.if_icmp .ge 53, 3) := by decide +kernel
theorem dX4_countEasyFragments_15 : decode cX4_countEasyFragments 15 = .ok (.lload 4, 2) := by decide +kernel
theorem dX4_countEasyFragments_17 : decode cX4_countEasyFragments 17 = .ok (.lconst 0, 1) := by decide +kernel
theorem dX4_countEasyFragments_18 : decode cX4_countEasyFragments 18 = .ok (.lcmp, 1) := by decide +kernel
theorem dX4_countEasyFragments_19 : decode cX4_countEasyFragments 19 = .ok (.ifCond .eq 46, 3) := by decide +kernel
theorem dX4_countEasyFragments_22 : decode cX4_countEasyFragments 22 = .ok (.aload_n 0, 1) := by decide +kernel
theorem dX4_countEasyFragments_23 : decode cX4_countEasyFragments 23 = .ok (.lload 4, 2) := by decide +kernel
theorem dX4_countEasyFragments_25 : decode cX4_countEasyFragments 25 = .ok (.invokestatic 52, 3) := by decide +kernel
theorem dX4_countEasyFragments_28 : decode cX4_countEasyFragments 28 = .ok (.lload_n 1, 1) := by decide +kernel
theorem dX4_countEasyFragments_29 : decode cX4_countEasyFragments 29 = .ok (.invokevirtual 56, 3) := by decide +kernel
theorem dX4_countEasyFragments_32 : decode cX4_countEasyFragments 32 = .ok (.lstore 7, 2) := by decide +kernel
theorem dX4_countEasyFragments_34 : decode cX4_countEasyFragments 34 = .ok (.aload_n 0, 1) := by decide +kernel
theorem dX4_countEasyFragments_35 : decode cX4_countEasyFragments 35 = .ok (.lload 7, 2) := by decide +kernel
theorem dX4_countEasyFragments_37 : decode cX4_countEasyFragments 37 = .ok (.invokevirtual 87, 3) := by decide +kernel
theorem dX4_countEasyFragments_40 : decode cX4_countEasyFragments 40 = .ok (.ifCond .ne 5, 3) := by decide +kernel
theorem dX4_countEasyFragments_43 : decode cX4_countEasyFragments 43 = .ok (.iconst (-1), 1) := by decide +kernel
theorem dX4_countEasyFragments_44 : decode cX4_countEasyFragments 44 = .ok (.ireturn, 1) := by decide +kernel
theorem dX4_countEasyFragments_45 : decode cX4_countEasyFragments 45 = .ok (.lload 4, 2) := by decide +kernel
theorem dX4_countEasyFragments_47 : decode cX4_countEasyFragments 47 = .ok (.lload 7, 2) := by decide +kernel
theorem dX4_countEasyFragments_49 : decode cX4_countEasyFragments 49 = .ok (.ldc2_w 60, 3) := by decide +kernel
theorem dX4_countEasyFragments_52 : decode cX4_countEasyFragments 52 = .ok (.lxor, 1) := by decide +kernel
theorem dX4_countEasyFragments_53 : decode cX4_countEasyFragments 53 = .ok (.land, 1) := by decide +kernel
theorem dX4_countEasyFragments_54 : decode cX4_countEasyFragments 54 = .ok (.lstore 4, 2) := by decide +kernel
theorem dX4_countEasyFragments_56 : decode cX4_countEasyFragments 56 = .ok (.iinc 3 1, 3) := by decide +kernel
theorem dX4_countEasyFragments_59 : decode cX4_countEasyFragments 59 = .ok (.iinc 6 1, 3) := by decide +kernel
theorem dX4_countEasyFragments_62 : decode cX4_countEasyFragments 62 = .ok (.goto (-54), 3) := by decide +kernel
theorem dX4_countEasyFragments_65 : decode cX4_countEasyFragments 65 = .ok (.iload_n 3, 1) := by decide +kernel
theorem dX4_countEasyFragments_66 : decode cX4_countEasyFragments 66 = .ok (.ireturn, 1) := by decide +kernel
theorem dX4_looseRight_0 : decode cX4_looseRight 0 = .ok (.lconst 0, 1) := by decide +kernel
theorem dX4_looseRight_1 : decode cX4_looseRight 1 = .ok (.lstore_n 1, 1) := by decide +kernel
theorem dX4_looseRight_2 : decode cX4_looseRight 2 = .ok (.iconst 0, 1) := by decide +kernel
theorem dX4_looseRight_3 : decode cX4_looseRight 3 = .ok (.istore_n 3, 1) := by decide +kernel
theorem dX4_looseRight_4 : decode cX4_looseRight 4 = .ok (.iload_n 3, 1) := by decide +kernel
theorem dX4_looseRight_5 : decode cX4_looseRight 5 = .ok (.aload_n 0, 1) := by decide +kernel
theorem dX4_looseRight_6 : decode cX4_looseRight 6 = .ok (.getfield 19, 3) := by decide +kernel
theorem dX4_looseRight_9 : decode cX4_looseRight 9 = .ok (.if_icmp .ge 21, 3) := by decide +kernel
theorem dX4_looseRight_12 : decode cX4_looseRight 12 = .ok (.lload_n 1, 1) := by decide +kernel
theorem dX4_looseRight_13 : decode cX4_looseRight 13 = .ok (.aload_n 0, 1) := by decide +kernel
theorem dX4_looseRight_14 : decode cX4_looseRight 14 = .ok (.getfield 25, 3) := by decide +kernel
theorem dX4_looseRight_17 : decode cX4_looseRight 17 = .ok (.iload_n 3, 1) := by decide +kernel
theorem dX4_looseRight_18 : decode cX4_looseRight 18 = .ok (.laload, 1) := by decide +kernel
theorem dX4_looseRight_19 : decode cX4_looseRight 19 = .ok (.invokestatic 91, 3) := by decide +kernel
theorem dX4_looseRight_22 : decode cX4_looseRight 22 = .ok (.lor, 1) := by decide +kernel
theorem dX4_looseRight_23 : decode cX4_looseRight 23 = .ok (.lstore_n 1, 1) := by decide +kernel
theorem dX4_looseRight_24 : decode cX4_looseRight 24 = .ok (.iinc 3 1, 3) := by decide +kernel
theorem dX4_looseRight_27 : decode cX4_looseRight 27 = .ok (.goto (-23), 3) := by decide +kernel
theorem dX4_looseRight_30 : decode cX4_looseRight 30 = .ok (.aload_n 0, 1) := by decide +kernel
theorem dX4_looseRight_31 : decode cX4_looseRight 31 = .ok (.getfield 32, 3) := by decide +kernel
theorem dX4_looseRight_34 : decode cX4_looseRight 34 = .ok (.getfield 94, 3) := by decide +kernel
theorem dX4_looseRight_37 : decode cX4_looseRight 37 = .ok (.lload_n 1, 1) := by decide +kernel
theorem dX4_looseRight_38 : decode cX4_looseRight 38 = .ok (.land, 1) := by decide +kernel
theorem dX4_looseRight_39 : decode cX4_looseRight 39 = .ok (.lreturn, 1) := by decide +kernel
theorem dX4_looseBelow_0 : decode cX4_looseBelow 0 = .ok (.lconst 0, 1) := by decide +kernel
theorem dX4_looseBelow_1 : decode cX4_looseBelow 1 = .ok (.lstore_n 1, 1) := by decide +kernel
theorem dX4_looseBelow_2 : decode cX4_looseBelow 2 = .ok (.iconst 0, 1) := by decide +kernel
theorem dX4_looseBelow_3 : decode cX4_looseBelow 3 = .ok (.istore_n 3, 1) := by decide +kernel
theorem dX4_looseBelow_4 : decode cX4_looseBelow 4 = .ok (.iload_n 3, 1) := by decide +kernel
theorem dX4_looseBelow_5 : decode cX4_looseBelow 5 = .ok (.aload_n 0, 1) := by decide +kernel
theorem dX4_looseBelow_6 : decode cX4_looseBelow 6 = .ok (.getfield 19, 3) := by decide +kernel
theorem dX4_looseBelow_9 : decode cX4_looseBelow 9 = .ok (.if_icmp .ge 21, 3) := by decide +kernel
theorem dX4_looseBelow_12 : decode cX4_looseBelow 12 = .ok (.lload_n 1, 1) := by decide +kernel
theorem dX4_looseBelow_13 : decode cX4_looseBelow 13 = .ok (.aload_n 0, 1) := by decide +kernel
theorem dX4_looseBelow_14 : decode cX4_looseBelow 14 = .ok (.getfield 25, 3) := by decide +kernel
theorem dX4_looseBelow_17 : decode cX4_looseBelow 17 = .ok (.iload_n 3, 1) := by decide +kernel
theorem dX4_looseBelow_18 : decode cX4_looseBelow 18 = .ok (.laload, 1) := by decide +kernel
theorem dX4_looseBelow_19 : decode cX4_looseBelow 19 = .ok (.invokestatic 97, 3) := by decide +kernel
theorem dX4_looseBelow_22 : decode cX4_looseBelow 22 = .ok (.lor, 1) := by decide +kernel
theorem dX4_looseBelow_23 : decode cX4_looseBelow 23 = .ok (.lstore_n 1, 1) := by decide +kernel
theorem dX4_looseBelow_24 : decode cX4_looseBelow 24 = .ok (.iinc 3 1, 3) := by decide +kernel
theorem dX4_looseBelow_27 : decode cX4_looseBelow 27 = .ok (.goto (-23), 3) := by decide +kernel
theorem dX4_looseBelow_30 : decode cX4_looseBelow 30 = .ok (.aload_n 0, 1) := by decide +kernel
theorem dX4_looseBelow_31 : decode cX4_looseBelow 31 = .ok (.getfield 32, 3) := by decide +kernel
theorem dX4_looseBelow_34 : decode cX4_looseBelow 34 = .ok (.getfield 100, 3) := by decide +kernel
theorem dX4_looseBelow_37 : decode cX4_looseBelow 37 = .ok (.lload_n 1, 1) := by decide +kernel
theorem dX4_looseBelow_38 : decode cX4_looseBelow 38 = .ok (.land, 1) := by decide +kernel
theorem dX4_looseBelow_39 : decode cX4_looseBelow 39 = .ok (.lreturn, 1) := by decide +kernel
theorem dX4_measureLead_0 : decode cX4_measureLead 0 = .ok (.aload_n 0, 1) := by decide +kernel
theorem dX4_measureLead_1 : decode cX4_measureLead 1 = .ok (.getfield 7, 3) := by decide +kernel
theorem dX4_measureLead_4 : decode cX4_measureLead 4 = .ok (.invokestatic 103, 3) := by decide +kernel
theorem dX4_measureLead_7 : decode cX4_measureLead 7 = .ok (.istore_n 1, 1) := by decide +kernel
theorem dX4_measureLead_8 : decode cX4_measureLead 8 = .ok (.iconst 0, 1) := by decide +kernel
theorem dX4_measureLead_9 : decode cX4_measureLead 9 = .ok (.istore_n 2, 1) := by decide +kernel
theorem dX4_measureLead_10 : decode cX4_measureLead 10 = .ok (.iload_n 2, 1) := by decide +kernel
theorem dX4_measureLead_11 : decode cX4_measureLead 11 = .ok (.aload_n 0, 1) := by decide +kernel
theorem dX4_measureLead_12 : decode cX4_measureLead 12 = .ok (.getfield 19, 3) := by decide +kernel
theorem dX4_measureLead_15 : decode cX4_measureLead 15 = .ok (.if_icmp .ge 21, 3) := by decide +kernel
theorem dX4_measureLead_18 : decode cX4_measureLead 18 = .ok (.iload_n 1, 1) := by decide +kernel
theorem dX4_measureLead_19 : decode cX4_measureLead 19 = .ok (.aload_n 0, 1) := by decide +kernel
theorem dX4_measureLead_20 : decode cX4_measureLead 20 = .ok (.getfield 25, 3) := by decide +kernel
theorem dX4_measureLead_23 : decode cX4_measureLead 23 = .ok (.iload_n 2, 1) := by decide +kernel
theorem dX4_measureLead_24 : decode cX4_measureLead 24 = .ok (.laload, 1) := by decide +kernel
theorem dX4_measureLead_25 : decode cX4_measureLead 25 = .ok (.invokestatic 103, 3) := by decide +kernel
theorem dX4_measureLead_28 : decode cX4_measureLead 28 = .ok (.isub, 1) := by decide +kernel
theorem dX4_measureLead_29 : decode cX4_measureLead 29 = .ok (.istore_n 1, 1) := by decide +kernel
theorem dX4_measureLead_30 : decode cX4_measureLead 30 = .ok (.iinc 2 1, 3) := by decide +kernel
theorem dX4_measureLead_33 : decode cX4_measureLead 33 = .ok (.goto (-23), 3) := by decide +kernel
theorem dX4_measureLead_36 : decode cX4_measureLead 36 = .ok (.iload_n 1, 1) := by decide +kernel
theorem dX4_measureLead_37 : decode cX4_measureLead 37 = .ok (.ireturn, 1) := by decide +kernel
theorem dX4_countEqualNeighbours_0 : decode cX4_countEqualNeighbours 0 = .ok (.iconst 0, 1) := by decide +kernel
theorem dX4_countEqualNeighbours_1 : decode cX4_countEqualNeighbours 1 = .ok (.istore_n 1, 1) := by decide +kernel
theorem dX4_countEqualNeighbours_2 : decode cX4_countEqualNeighbours 2 = .ok (.iconst 0, 1) := by decide +kernel
theorem dX4_countEqualNeighbours_3 : decode cX4_countEqualNeighbours 3 = .ok (.istore_n 2, 1) := by decide +kernel
theorem dX4_countEqualNeighbours_4 : decode cX4_countEqualNeighbours 4 = .ok (.iload_n 2, 1) := by decide +kernel
theorem dX4_countEqualNeighbours_5 : decode cX4_countEqualNeighbours 5 = .ok (.aload_n 0, 1) := by decide +kernel
theorem dX4_countEqualNeighbours_6 : decode cX4_countEqualNeighbours 6 = .ok (.getfield 19, 3) := by decide +kernel
theorem dX4_countEqualNeighbours_9 : decode cX4_countEqualNeighbours 9 = .ok (.if_icmp .ge 65, 3) := by decide +kernel
theorem dX4_countEqualNeighbours_12 : decode cX4_countEqualNeighbours 12 = .ok (.iconst 0, 1) := by decide +kernel
theorem dX4_countEqualNeighbours_13 : decode cX4_countEqualNeighbours 13 = .ok (.istore_n 3, 1) := by decide +kernel
theorem dX4_countEqualNeighbours_14 : decode cX4_countEqualNeighbours 14 = .ok (.iload_n 3, 1) := by decide +kernel
theorem dX4_countEqualNeighbours_15 : decode cX4_countEqualNeighbours 15 = .ok (.iload_n 2, 1) := by decide +kernel
theorem dX4_countEqualNeighbours_16 : decode cX4_countEqualNeighbours 16 = .ok (.if_icmp .ge 52, 3) := by decide +kernel
theorem dX4_countEqualNeighbours_19 : decode cX4_countEqualNeighbours 19 = .ok (.aload_n 0, 1) := by decide +kernel
theorem dX4_countEqualNeighbours_20 : decode cX4_countEqualNeighbours 20 = .ok (.getfield 29, 3) := by decide +kernel
theorem dX4_countEqualNeighbours_23 : decode cX4_countEqualNeighbours 23 = .ok (.iload_n 2, 1) := by decide +kernel
theorem dX4_countEqualNeighbours_24 : decode cX4_countEqualNeighbours 24 = .ok (.laload, 1) := by decide +kernel
theorem dX4_countEqualNeighbours_25 : decode cX4_countEqualNeighbours 25 = .ok (.lconst 1, 1) := by decide +kernel
theorem dX4_countEqualNeighbours_26 : decode cX4_countEqualNeighbours 26 = .ok (.iload_n 3, 1) := by decide +kernel
theorem dX4_countEqualNeighbours_27 : decode cX4_countEqualNeighbours 27 = .ok (.lshl, 1) := by decide +kernel
theorem dX4_countEqualNeighbours_28 : decode cX4_countEqualNeighbours 28 = .ok (.land, 1) := by decide +kernel
theorem dX4_countEqualNeighbours_29 : decode cX4_countEqualNeighbours 29 = .ok (.lconst 0, 1) := by decide +kernel
theorem dX4_countEqualNeighbours_30 : decode cX4_countEqualNeighbours 30 = .ok (.lcmp, 1) := by decide +kernel
theorem dX4_countEqualNeighbours_31 : decode cX4_countEqualNeighbours 31 = .ok (.ifCond .eq 7, 3) := by decide +kernel
theorem dX4_countEqualNeighbours_34 : decode cX4_countEqualNeighbours 34 = .ok (.iconst 1, 1) := by decide +kernel
theorem dX4_countEqualNeighbours_35 : decode cX4_countEqualNeighbours 35 = .ok (.goto 4, 3) := by decide +kernel
theorem dX4_countEqualNeighbours_38 : decode cX4_countEqualNeighbours 38 = .ok (.iconst 0, 1) := by decide +kernel
theorem dX4_countEqualNeighbours_39 : decode cX4_countEqualNeighbours 39 = .ok (.istore 4, 2) := by decide +kernel
theorem dX4_countEqualNeighbours_41 : decode cX4_countEqualNeighbours 41 = .ok (.iload 4, 2) := by decide +kernel
theorem dX4_countEqualNeighbours_43 : decode cX4_countEqualNeighbours 43 = .ok (.ifCond .eq 19, 3) := by decide +kernel
theorem dX4_countEqualNeighbours_46 : decode cX4_countEqualNeighbours 46 = .ok (.aload_n 0, 1) := by decide +kernel
theorem dX4_countEqualNeighbours_47 : decode cX4_countEqualNeighbours 47 = .ok (.iload_n 2, 1) := by decide +kernel
theorem dX4_countEqualNeighbours_48 : decode cX4_countEqualNeighbours 48 = .ok (.invokevirtual 106, 3) := by decide +kernel
theorem dX4_countEqualNeighbours_51 : decode cX4_countEqualNeighbours 51 = .ok (.aload_n 0, 1) := by decide +kernel
theorem dX4_countEqualNeighbours_52 : decode cX4_countEqualNeighbours 52 = .ok (.iload_n 3, 1) := by decide +kernel
theorem dX4_countEqualNeighbours_53 : decode cX4_countEqualNeighbours 53 = .ok (.invokevirtual 106, 3) := by decide +kernel
theorem dX4_countEqualNeighbours_56 : decode cX4_countEqualNeighbours 56 = .ok (.if_icmp .ne 6, 3) := by decide +kernel
theorem dX4_countEqualNeighbours_59 : decode cX4_countEqualNeighbours 59 = .ok (.iinc 1 1, 3) := by decide +kernel
theorem dX4_countEqualNeighbours_62 : decode cX4_countEqualNeighbours 62 = .ok (.iinc 3 1, 3) := by decide +kernel
theorem dX4_countEqualNeighbours_65 : decode cX4_countEqualNeighbours 65 = .ok (.goto (-51), 3) := by decide +kernel
theorem dX4_countEqualNeighbours_68 : decode cX4_countEqualNeighbours 68 = .ok (.iinc 2 1, 3) := by decide +kernel
theorem dX4_countEqualNeighbours_71 : decode cX4_countEqualNeighbours 71 = .ok (.goto (-67), 3) := by decide +kernel
theorem dX4_countEqualNeighbours_74 : decode cX4_countEqualNeighbours 74 = .ok (.iload_n 1, 1) := by decide +kernel
theorem dX4_countEqualNeighbours_75 : decode cX4_countEqualNeighbours 75 = .ok (.ireturn, 1) := by decide +kernel
theorem dX4_colourOf_0 : decode cX4_colourOf 0 = .ok (.aload_n 0, 1) := by decide +kernel
theorem dX4_colourOf_1 : decode cX4_colourOf 1 = .ok (.getfield 25, 3) := by decide +kernel
theorem dX4_colourOf_4 : decode cX4_colourOf 4 = .ok (.iload_n 1, 1) := by decide +kernel
theorem dX4_colourOf_5 : decode cX4_colourOf 5 = .ok (.laload, 1) := by decide +kernel
theorem dX4_colourOf_6 : decode cX4_colourOf 6 = .ok (.invokestatic 110, 3) := by decide +kernel
theorem dX4_colourOf_9 : decode cX4_colourOf 9 = .ok (.istore_n 2, 1) := by decide +kernel
theorem dX4_colourOf_10 : decode cX4_colourOf 10 = .ok (.iload_n 2, 1) := by decide +kernel
theorem dX4_colourOf_11 : decode cX4_colourOf 11 = .ok (.bipush 56, 2) := by decide +kernel
theorem dX4_colourOf_13 : decode cX4_colourOf 13 = .ok (.if_icmp .ge 15, 3) := by decide +kernel
theorem dX4_colourOf_16 : decode cX4_colourOf 16 = .ok (.aload_n 0, 1) := by decide +kernel
theorem dX4_colourOf_17 : decode cX4_colourOf 17 = .ok (.getfield 32, 3) := by decide +kernel
theorem dX4_colourOf_20 : decode cX4_colourOf 20 = .ok (.getfield 113, 3) := by decide +kernel
theorem dX4_colourOf_23 : decode cX4_colourOf 23 = .ok (.iload_n 2, 1) := by decide +kernel
theorem dX4_colourOf_24 : decode cX4_colourOf 24 = .ok (.iaload, 1) := by decide +kernel
theorem dX4_colourOf_25 : decode cX4_colourOf 25 = .ok (.goto 4, 3) := by decide +kernel
theorem dX4_colourOf_28 : decode cX4_colourOf 28 = .ok (.iconst 0, 1) := by decide +kernel
theorem dX4_colourOf_29 : decode cX4_colourOf 29 = .ok (.ireturn, 1) := by decide +kernel
theorem dX4_measureClique_0 : decode cX4_measureClique 0 = .ok (.aload_n 0, 1) := by decide +kernel
theorem dX4_measureClique_1 : decode cX4_measureClique 1 = .ok (.aload_n 0, 1) := by decide +kernel
theorem dX4_measureClique_2 : decode cX4_measureClique 2 = .ok (.invokevirtual 117, 3) := by decide +kernel
theorem dX4_measureClique_5 : decode cX4_measureClique 5 = .ok (.iconst 0, 1) := by decide +kernel
theorem dX4_measureClique_6 : decode cX4_measureClique 6 = .ok (.invokevirtual 121, 3) := by decide +kernel
theorem dX4_measureClique_9 : decode cX4_measureClique 9 = .ok (.ireturn, 1) := by decide +kernel
theorem dX4_cliqueAmong_0 : decode cX4_cliqueAmong 0 = .ok (.iload_n 3, 1) := by decide +kernel
theorem dX4_cliqueAmong_1 : decode cX4_cliqueAmong 1 = .ok (.iconst 4, 1) := by decide +kernel
theorem dX4_cliqueAmong_2 : decode cX4_cliqueAmong 2 = .ok (.if_icmp .lt 5, 3) := by decide +kernel
theorem dX4_cliqueAmong_5 : decode cX4_cliqueAmong 5 = .ok (.iconst 0, 1) := by decide +kernel
theorem dX4_cliqueAmong_6 : decode cX4_cliqueAmong 6 = .ok (.ireturn, 1) := by decide +kernel
theorem dX4_cliqueAmong_7 : decode cX4_cliqueAmong 7 = .ok (.iconst 0, 1) := by decide +kernel
theorem dX4_cliqueAmong_8 : decode cX4_cliqueAmong 8 = .ok (.istore 4, 2) := by decide +kernel
theorem dX4_cliqueAmong_10 : decode cX4_cliqueAmong 10 = .ok (.iconst 0, 1) := by decide +kernel
theorem dX4_cliqueAmong_11 : decode cX4_cliqueAmong 11 = .ok (.istore 5, 2) := by decide +kernel
theorem dX4_cliqueAmong_13 : decode cX4_cliqueAmong 13 = .ok (.iload 5, 2) := by decide +kernel
theorem dX4_cliqueAmong_15 : decode cX4_cliqueAmong 15 = .ok (.aload_n 0, 1) := by decide +kernel
theorem dX4_cliqueAmong_16 : decode cX4_cliqueAmong 16 = .ok (.getfield 19, 3) := by decide +kernel
theorem dX4_cliqueAmong_19 : decode cX4_cliqueAmong 19 = .ok (.if_icmp .ge 60, 3) := by decide +kernel
theorem dX4_cliqueAmong_22 : decode cX4_cliqueAmong 22 = .ok (.lload_n 1, 1) := by decide +kernel
theorem dX4_cliqueAmong_23 : decode cX4_cliqueAmong 23 = .ok (.lconst 1, 1) := by decide +kernel
theorem dX4_cliqueAmong_24 : decode cX4_cliqueAmong 24 = .ok (.iload 5, 2) := by decide +kernel
theorem dX4_cliqueAmong_26 : decode cX4_cliqueAmong 26 = .ok (.lshl, 1) := by decide +kernel
theorem dX4_cliqueAmong_27 : decode cX4_cliqueAmong 27 = .ok (.land, 1) := by decide +kernel
theorem dX4_cliqueAmong_28 : decode cX4_cliqueAmong 28 = .ok (.lconst 0, 1) := by decide +kernel
theorem dX4_cliqueAmong_29 : decode cX4_cliqueAmong 29 = .ok (.lcmp, 1) := by decide +kernel
theorem dX4_cliqueAmong_30 : decode cX4_cliqueAmong 30 = .ok (.ifCond .eq 43, 3) := by decide +kernel
theorem dX4_cliqueAmong_33 : decode cX4_cliqueAmong 33 = .ok (.lconst 1, 1) := by decide +kernel
theorem dX4_cliqueAmong_34 : decode cX4_cliqueAmong 34 = .ok (.iload 5, 2) := by decide +kernel
theorem dX4_cliqueAmong_36 : decode cX4_cliqueAmong 36 = .ok (.lshl, 1) := by decide +kernel
theorem dX4_cliqueAmong_37 : decode cX4_cliqueAmong 37 = .ok (.lconst 1, 1) := by decide +kernel
theorem dX4_cliqueAmong_38 : decode cX4_cliqueAmong 38 = .ok (.lsub, 1) := by decide +kernel
theorem dX4_cliqueAmong_39 : decode cX4_cliqueAmong 39 = .ok (.lstore 6, 2) := by decide +kernel
theorem dX4_cliqueAmong_41 : decode cX4_cliqueAmong 41 = .ok (.lload_n 1, 1) := by decide +kernel
theorem dX4_cliqueAmong_42 : decode cX4_cliqueAmong 42 = .ok (.aload_n 0, 1) := by decide +kernel
theorem dX4_cliqueAmong_43 : decode cX4_cliqueAmong 43 = .ok (.getfield 29, 3) := by decide +kernel
theorem dX4_cliqueAmong_46 : decode cX4_cliqueAmong 46 = .ok (.iload 5, 2) := by decide +kernel
theorem dX4_cliqueAmong_48 : decode cX4_cliqueAmong 48 = .ok (.laload, 1) := by decide +kernel
theorem dX4_cliqueAmong_49 : decode cX4_cliqueAmong 49 = .ok (.land, 1) := by decide +kernel
theorem dX4_cliqueAmong_50 : decode cX4_cliqueAmong 50 = .ok (.lload 6, 2) := by decide +kernel
theorem dX4_cliqueAmong_52 : decode cX4_cliqueAmong 52 = .ok (.land, 1) := by decide +kernel
theorem dX4_cliqueAmong_53 : decode cX4_cliqueAmong 53 = .ok (.lstore 8, 2) := by decide +kernel
theorem dX4_cliqueAmong_55 : decode cX4_cliqueAmong 55 = .ok (.iload 4, 2) := by decide +kernel
theorem dX4_cliqueAmong_57 : decode cX4_cliqueAmong 57 = .ok (.iconst 1, 1) := by decide +kernel
theorem dX4_cliqueAmong_58 : decode cX4_cliqueAmong 58 = .ok (.aload_n 0, 1) := by decide +kernel
theorem dX4_cliqueAmong_59 : decode cX4_cliqueAmong 59 = .ok (.lload 8, 2) := by decide +kernel
theorem dX4_cliqueAmong_61 : decode cX4_cliqueAmong 61 = .ok (.iload_n 3, 1) := by decide +kernel
theorem dX4_cliqueAmong_62 : decode cX4_cliqueAmong 62 = .ok (.iconst 1, 1) := by decide +kernel
theorem dX4_cliqueAmong_63 : decode cX4_cliqueAmong 63 = .ok (.iadd, 1) := by decide +kernel
theorem dX4_cliqueAmong_64 : decode cX4_cliqueAmong 64 = .ok (.invokevirtual 121, 3) := by decide +kernel
theorem dX4_cliqueAmong_67 : decode cX4_cliqueAmong 67 = .ok (.iadd, 1) := by decide +kernel
theorem dX4_cliqueAmong_68 : decode cX4_cliqueAmong 68 = .ok (.invokestatic 125, 3) := by decide +kernel
theorem dX4_cliqueAmong_71 : decode cX4_cliqueAmong 71 = .ok (.istore 4, 2) := by decide +kernel
theorem dX4_cliqueAmong_73 : decode cX4_cliqueAmong 73 = .ok (.iinc 5 1, 3) := by decide +kernel
theorem dX4_cliqueAmong_76 : decode cX4_cliqueAmong 76 = .ok (.goto (-63), 3) := by decide +kernel
theorem dX4_cliqueAmong_79 : decode cX4_cliqueAmong 79 = .ok (.iload 4, 2) := by decide +kernel
theorem dX4_cliqueAmong_81 : decode cX4_cliqueAmong 81 = .ok (.ireturn, 1) := by decide +kernel
theorem dX5_init_0 : decode cX5_init 0 = .ok (.aload_n 0, 1) := by decide +kernel
theorem dX5_init_1 : decode cX5_init 1 = .ok (.invokespecial 3, 3) := by decide +kernel
theorem dX5_init_4 : decode cX5_init 4 = .ok (.aload_n 0, 1) := by decide +kernel
theorem dX5_init_5 : decode cX5_init 5 = .ok (.iconst (-1), 1) := by decide +kernel
theorem dX5_init_6 : decode cX5_init 6 = .ok (.putfield 11, 3) := by decide +kernel
theorem dX5_init_9 : decode cX5_init 9 = .ok (.aload_n 0, 1) := by decide +kernel
theorem dX5_init_10 : decode cX5_init 10 = .ok (.lconst 0, 1) := by decide +kernel
theorem dX5_init_11 : decode cX5_init 11 = .ok (.putfield 15, 3) := by decide +kernel
theorem dX5_init_14 : decode cX5_init 14 = .ok (.aload_n 0, 1) := by decide +kernel
theorem dX5_init_15 : decode cX5_init 15 = .ok (.iconst 0, 1) := by decide +kernel
theorem dX5_init_16 : decode cX5_init 16 = .ok (.putfield 19, 3) := by decide +kernel
theorem dX5_init_19 : decode cX5_init 19 = .ok (.aload_n 0, 1) := by decide +kernel
theorem dX5_init_20 : decode cX5_init 20 = .ok (.iconst 0, 1) := by decide +kernel
theorem dX5_init_21 : decode cX5_init 21 = .ok (.putfield 22, 3) := by decide +kernel
theorem dX5_init_24 : decode cX5_init 24 = .ok (.aload_n 0, 1) := by decide +kernel
theorem dX5_init_25 : decode cX5_init 25 = .ok (.iconst 0, 1) := by decide +kernel
theorem dX5_init_26 : decode cX5_init 26 = .ok (.putfield 25, 3) := by decide +kernel
theorem dX5_init_29 : decode cX5_init 29 = .ok (.aload_n 0, 1) := by decide +kernel
theorem dX5_init_30 : decode cX5_init 30 = .ok (.iconst 0, 1) := by decide +kernel
theorem dX5_init_31 : decode cX5_init 31 = .ok (.putfield 28, 3) := by decide +kernel
theorem dX5_init_34 : decode cX5_init 34 = .ok (.aload_n 0, 1) := by decide +kernel
theorem dX5_init_35 : decode cX5_init 35 = .ok (.sipush 784, 3) := by decide +kernel
theorem dX5_init_38 : decode cX5_init 38 = .ok (.newarray .int, 2) := by decide +kernel
theorem dX5_init_40 : decode cX5_init 40 = .ok (.putfield 31, 3) := by decide +kernel
theorem dX5_init_43 : decode cX5_init 43 = .ok (.aload_n 0, 1) := by decide +kernel
theorem dX5_init_44 : decode cX5_init 44 = .ok (.sipush 784, 3) := by decide +kernel
theorem dX5_init_47 : decode cX5_init 47 = .ok (.newarray .int, 2) := by decide +kernel
theorem dX5_init_49 : decode cX5_init 49 = .ok (.putfield 35, 3) := by decide +kernel
theorem dX5_init_52 : decode cX5_init 52 = .ok (.aload_n 0, 1) := by decide +kernel
theorem dX5_init_53 : decode cX5_init 53 = .ok (.aload_n 1, 1) := by decide +kernel
theorem dX5_init_54 : decode cX5_init 54 = .ok (.putfield 38, 3) := by decide +kernel
theorem dX5_init_57 : decode cX5_init 57 = .ok (.return_, 1) := by decide +kernel
theorem dX5_forget_0 : decode cX5_forget 0 = .ok (.aload_n 0, 1) := by decide +kernel
theorem dX5_forget_1 : decode cX5_forget 1 = .ok (.iconst (-1), 1) := by decide +kernel
theorem dX5_forget_2 : decode cX5_forget 2 = .ok (.putfield 11, 3) := by decide +kernel
theorem dX5_forget_5 : decode cX5_forget 5 = .ok (.return_, 1) := by decide +kernel
theorem dX5_pieces_0 : decode cX5_pieces 0 = .ok (.aload_n 0, 1) := by decide +kernel
theorem dX5_pieces_1 : decode cX5_pieces 1 = .ok (.getfield 31, 3) := by decide +kernel
theorem dX5_pieces_4 : decode cX5_pieces 4 = .ok (.aload_n 0, 1) := by decide +kernel
theorem dX5_pieces_5 : decode cX5_pieces 5 = .ok (.getfield 19, 3) := by decide +kernel
theorem dX5_pieces_8 : decode cX5_pieces 8 = .ok (.aload_n 0, 1) := by decide +kernel
theorem dX5_pieces_9 : decode cX5_pieces 9 = .ok (.getfield 22, 3) := by decide +kernel
theorem dX5_pieces_12 : decode cX5_pieces 12 = .ok (.aload_n 0, 1) := by decide +kernel
theorem dX5_pieces_13 : decode cX5_pieces 13 = .ok (.getfield 25, 3) := by decide +kernel
theorem dX5_pieces_16 : decode cX5_pieces 16 = .ok (.aload_n 0, 1) := by decide +kernel
theorem dX5_pieces_17 : decode cX5_pieces 17 = .ok (.getfield 28, 3) := by decide +kernel
theorem dX5_pieces_20 : decode cX5_pieces 20 = .ok (.invokestatic 42, 3) := by decide +kernel
theorem dX5_pieces_23 : decode cX5_pieces 23 = .ok (.iaload, 1) := by decide +kernel
theorem dX5_pieces_24 : decode cX5_pieces 24 = .ok (.sipush 128, 3) := by decide +kernel
theorem dX5_pieces_27 : decode cX5_pieces 27 = .ok (.idiv, 1) := by decide +kernel
theorem dX5_pieces_28 : decode cX5_pieces 28 = .ok (.ireturn, 1) := by decide +kernel
theorem dX5_lead_0 : decode cX5_lead 0 = .ok (.aload_n 0, 1) := by decide +kernel
theorem dX5_lead_1 : decode cX5_lead 1 = .ok (.getfield 31, 3) := by decide +kernel
theorem dX5_lead_4 : decode cX5_lead 4 = .ok (.aload_n 0, 1) := by decide +kernel
theorem dX5_lead_5 : decode cX5_lead 5 = .ok (.getfield 19, 3) := by decide +kernel
theorem dX5_lead_8 : decode cX5_lead 8 = .ok (.aload_n 0, 1) := by decide +kernel
theorem dX5_lead_9 : decode cX5_lead 9 = .ok (.getfield 22, 3) := by decide +kernel
theorem dX5_lead_12 : decode cX5_lead 12 = .ok (.aload_n 0, 1) := by decide +kernel
theorem dX5_lead_13 : decode cX5_lead 13 = .ok (.getfield 25, 3) := by decide +kernel
theorem dX5_lead_16 : decode cX5_lead 16 = .ok (.aload_n 0, 1) := by decide +kernel
theorem dX5_lead_17 : decode cX5_lead 17 = .ok (.getfield 28, 3) := by decide +kernel
theorem dX5_lead_20 : decode cX5_lead 20 = .ok (.invokestatic 42, 3) := by decide +kernel
theorem dX5_lead_23 : decode cX5_lead 23 = .ok (.iaload, 1) := by decide +kernel
theorem dX5_lead_24 : decode cX5_lead 24 = .ok (.sipush 128, 3) := by decide +kernel
theorem dX5_lead_27 : decode cX5_lead 27 = .ok (.irem, 1) := by decide +kernel
theorem dX5_lead_28 : decode cX5_lead 28 = .ok (.ireturn, 1) := by decide +kernel
theorem dX5_plan_0 : decode cX5_plan 0 = .ok (.iload_n 1, 1) := by decide +kernel
theorem dX5_plan_1 : decode cX5_plan 1 = .ok (.aload_n 0, 1) := by decide +kernel
theorem dX5_plan_2 : decode cX5_plan 2 = .ok (.getfield 11, 3) := by decide +kernel
theorem dX5_plan_5 : decode cX5_plan 5 = .ok (.if_icmp .ne 4, 3) := by decide +kernel
theorem dX5_plan_8 : decode cX5_plan 8 = .ok (.return_, 1) := by decide +kernel
theorem dX5_plan_9 : decode cX5_plan 9 = .ok (.aload_n 0, 1) := by decide +kernel
theorem dX5_plan_10 : decode cX5_plan 10 = .ok (.iload_n 1, 1) := by decide +kernel
theorem dX5_plan_11 : decode cX5_plan 11 = .ok (.putfield 11, 3) := by decide +kernel
theorem dX5_plan_14 : decode cX5_plan 14 = .ok (.aload_n 0, 1) := by decide +kernel
theorem dX5_plan_15 : decode cX5_plan 15 = .ok (.aload_n 0, 1) := by decide +kernel
theorem dX5_plan_16 : decode cX5_plan 16 = .ok (.getfield 38, 3) := by decide +kernel
theorem dX5_plan_19 : decode cX5_plan 19 = .ok (.getfield 46, 3) := by decide +kernel
theorem dX5_plan_22 : decode cX5_plan 22 = .ok (.iload_n 1, 1) := by decide +kernel
theorem dX5_plan_23 : decode cX5_plan 23 = .ok (.laload, 1) := by decide +kernel
theorem dX5_plan_24 : decode cX5_plan 24 = .ok (.putfield 15, 3) := by decide +kernel
theorem dX5_plan_27 : decode cX5_plan 27 = .ok (.aload_n 0, 1) := by decide +kernel
theorem dX5_plan_28 : decode cX5_plan 28 = .ok (.invokevirtual 51, 3) := by decide +kernel
theorem dX5_plan_31 : decode cX5_plan 31 = .ok (.aload_n 0, 1) := by decide +kernel
theorem dX5_plan_32 : decode cX5_plan 32 = .ok (.getfield 19, 3) := by decide +kernel
theorem dX5_plan_35 : decode cX5_plan 35 = .ok (.istore_n 2, 1) := by decide +kernel
theorem dX5_plan_36 : decode cX5_plan 36 = .ok (.iload_n 2, 1) := by decide +kernel
theorem dX5_plan_37 : decode cX5_plan 37 = .ok (.aload_n 0, 1) := by decide +kernel
theorem dX5_plan_38 : decode cX5_plan 38 = .ok (.getfield 22, 3) := by decide +kernel
theorem dX5_plan_41 : decode cX5_plan 41 = .ok (.if_icmp .gt 75, 3) := by decide +kernel
theorem dX5_plan_44 : decode cX5_plan 44 = .ok (.iload_n 2, 1) := by decide +kernel
theorem dX5_plan_45 : decode cX5_plan 45 = .ok (.istore_n 3, 1) := by decide +kernel
theorem dX5_plan_46 : decode cX5_plan 46 = .ok (.iload_n 3, 1) := by decide +kernel
theorem dX5_plan_47 : decode cX5_plan 47 = .ok (.aload_n 0, 1) := by decide +kernel
theorem dX5_plan_48 : decode cX5_plan 48 = .ok (.getfield 19, 3) := by decide +kernel
theorem dX5_plan_51 : decode cX5_plan 51 = .ok (.if_icmp .lt 59, 3) := by decide +kernel
theorem dX5_plan_54 : decode cX5_plan 54 = .ok (.aload_n 0, 1) := by decide +kernel
theorem dX5_plan_55 : decode cX5_plan 55 = .ok (.getfield 25, 3) := by decide +kernel
theorem dX5_plan_58 : decode cX5_plan 58 = .ok (.istore 4, 2) := by decide +kernel
theorem dX5_plan_60 : decode cX5_plan 60 = .ok (.iload 4, 2) := by decide +kernel
theorem dX5_plan_62 : decode cX5_plan 62 = .ok (.aload_n 0, 1) := by decide +kernel
theorem dX5_plan_63 : decode cX5_plan 63 = .ok (.getfield 28, 3) := by decide +kernel
theorem dX5_plan_66 : decode cX5_plan 66 = .ok (.if_icmp .gt 38, 3) := by decide +kernel
theorem dX5_plan_69 : decode cX5_plan 69 = .ok (.iload 4, 2) := by decide +kernel
theorem dX5_plan_71 : decode cX5_plan 71 = .ok (.istore 5, 2) := by decide +kernel
theorem dX5_plan_73 : decode cX5_plan 73 = .ok (.iload 5, 2) := by decide +kernel
theorem dX5_plan_75 : decode cX5_plan 75 = .ok (.aload_n 0, 1) := by decide +kernel
theorem dX5_plan_76 : decode cX5_plan 76 = .ok (.getfield 25, 3) := by decide +kernel
theorem dX5_plan_79 : decode cX5_plan 79 = .ok (.if_icmp .lt 19, 3) := by decide +kernel
theorem dX5_plan_82 : decode cX5_plan 82 = .ok (.aload_n 0, 1) := by decide +kernel
theorem dX5_plan_83 : decode cX5_plan 83 = .ok (.iload_n 3, 1) := by decide +kernel
theorem dX5_plan_84 : decode cX5_plan 84 = .ok (.iload_n 2, 1) := by decide +kernel
theorem dX5_plan_85 : decode cX5_plan 85 = .ok (.iload 5, 2) := by decide +kernel
theorem dX5_plan_87 : decode cX5_plan 87 = .ok (.iload 4, 2) := by decide +kernel
theorem dX5_plan_89 : decode cX5_plan 89 = .ok (.invokevirtual 54, 3) := by decide +kernel
theorem dX5_plan_92 : decode cX5_plan 92 = .ok (.iinc 5 (-1), 3) := by decide +kernel
theorem dX5_plan_95 : decode cX5_plan 95 = .ok (.goto (-22), 3) := by decide +kernel
theorem dX5_plan_98 : decode cX5_plan 98 = .ok (.iinc 4 1, 3) := by decide +kernel
theorem dX5_plan_101 : decode cX5_plan 101 = .ok (.goto (-41), 3) := by decide +kernel
theorem dX5_plan_104 : decode cX5_plan 104 = .ok (.iinc 3 (-1), 3) := by decide +kernel
theorem dX5_plan_107 : decode cX5_plan 107 = .ok (.goto (-61), 3) := by decide +kernel
theorem dX5_plan_110 : decode cX5_plan 110 = .ok (.iinc 2 1, 3) := by decide +kernel
theorem dX5_plan_113 : decode cX5_plan 113 = .ok (.goto (-77), 3) := by decide +kernel
theorem dX5_plan_116 : decode cX5_plan 116 = .ok (.return_, 1) := by decide +kernel
theorem dX5_frame_0 : decode cX5_frame 0 = .ok (.aload_n 0, 1) := by decide +kernel
theorem dX5_frame_1 : decode cX5_frame 1 = .ok (.bipush 6, 2) := by decide +kernel
theorem dX5_frame_3 : decode cX5_frame 3 = .ok (.putfield 19, 3) := by decide +kernel
theorem dX5_frame_6 : decode cX5_frame 6 = .ok (.aload_n 0, 1) := by decide +kernel
theorem dX5_frame_7 : decode cX5_frame 7 = .ok (.iconst 0, 1) := by decide +kernel
theorem dX5_frame_8 : decode cX5_frame 8 = .ok (.putfield 22, 3) := by decide +kernel
theorem dX5_frame_11 : decode cX5_frame 11 = .ok (.aload_n 0, 1) := by decide +kernel
theorem dX5_frame_12 : decode cX5_frame 12 = .ok (.bipush 6, 2) := by decide +kernel
theorem dX5_frame_14 : decode cX5_frame 14 = .ok (.putfield 25, 3) := by decide +kernel
theorem dX5_frame_17 : decode cX5_frame 17 = .ok (.aload_n 0, 1) := by decide +kernel
theorem dX5_frame_18 : decode cX5_frame 18 = .ok (.iconst 0, 1) := by decide +kernel
theorem dX5_frame_19 : decode cX5_frame 19 = .ok (.putfield 28, 3) := by decide +kernel
theorem dX5_frame_22 : decode cX5_frame 22 = .ok (.iconst 0, 1) := by decide +kernel
theorem dX5_frame_23 : decode cX5_frame 23 = .ok (.istore_n 1, 1) := by decide +kernel
theorem dX5_frame_24 : decode cX5_frame 24 = .ok (.iload_n 1, 1) := by decide +kernel
theorem dX5_frame_25 : decode cX5_frame 25 = .ok (.bipush 7, 2) := by decide +kernel
theorem dX5_frame_27 : decode cX5_frame 27 = .ok (.if_icmp .ge 71, 3) := by decide +kernel
theorem dX5_frame_30 : decode cX5_frame 30 = .ok (.aload_n 0, 1) := by decide +kernel
theorem dX5_frame_31 : decode cX5_frame 31 = .ok (.getfield 15, 3) := by decide +kernel
theorem dX5_frame_34 : decode cX5_frame 34 = .ok (.iload_n 1, 1) := by decide +kernel
theorem dX5_frame_35 : decode cX5_frame 35 = .ok (.invokestatic 58, 3) := by decide +kernel
theorem dX5_frame_38 : decode cX5_frame 38 = .ok (.land, 1) := by decide +kernel
theorem dX5_frame_39 : decode cX5_frame 39 = .ok (.lconst 0, 1) := by decide +kernel
theorem dX5_frame_40 : decode cX5_frame 40 = .ok (.lcmp, 1) := by decide +kernel
theorem dX5_frame_41 : decode cX5_frame 41 = .ok (.ifCond .eq 20, 3) := by decide +kernel
theorem dX5_frame_44 : decode cX5_frame 44 = .ok (.aload_n 0, 1) := by decide +kernel
theorem dX5_frame_45 : decode cX5_frame 45 = .ok (.aload_n 0, 1) := by decide +kernel
theorem dX5_frame_46 : decode cX5_frame 46 = .ok (.getfield 19, 3) := by decide +kernel
theorem dX5_frame_49 : decode cX5_frame 49 = .ok (.iload_n 1, 1) := by decide +kernel
theorem dX5_frame_50 : decode cX5_frame 50 = .ok (.invokestatic 62, 3) := by decide +kernel
theorem dX5_frame_53 : decode cX5_frame 53 = .ok (.putfield 19, 3) := by decide +kernel
theorem dX5_frame_56 : decode cX5_frame 56 = .ok (.aload_n 0, 1) := by decide +kernel
theorem dX5_frame_57 : decode cX5_frame 57 = .ok (.iload_n 1, 1) := by decide +kernel
theorem dX5_frame_58 : decode cX5_frame 58 = .ok (.putfield 22, 3) := by decide +kernel
theorem dX5_frame_61 : decode cX5_frame 61 = .ok (.aload_n 0, 1) := by decide +kernel
theorem dX5_frame_62 : decode cX5_frame 62 = .ok (.getfield 15, 3) := by decide +kernel
theorem dX5_frame_65 : decode cX5_frame 65 = .ok (.iload_n 1, 1) := by decide +kernel
theorem dX5_frame_66 : decode cX5_frame 66 = .ok (.invokestatic 68, 3) := by decide +kernel
theorem dX5_frame_69 : decode cX5_frame 69 = .ok (.land, 1) := by decide +kernel
theorem dX5_frame_70 : decode cX5_frame 70 = .ok (.lconst 0, 1) := by decide +kernel
theorem dX5_frame_71 : decode cX5_frame 71 = .ok (.lcmp, 1) := by decide +kernel
theorem dX5_frame_72 : decode cX5_frame 72 = .ok (.ifCond .eq 20, 3) := by decide +kernel
theorem dX5_frame_75 : decode cX5_frame 75 = .ok (.aload_n 0, 1) := by decide +kernel
theorem dX5_frame_76 : decode cX5_frame 76 = .ok (.aload_n 0, 1) := by decide +kernel
theorem dX5_frame_77 : decode cX5_frame 77 = .ok (.getfield 25, 3) := by decide +kernel
theorem dX5_frame_80 : decode cX5_frame 80 = .ok (.iload_n 1, 1) := by decide +kernel
theorem dX5_frame_81 : decode cX5_frame 81 = .ok (.invokestatic 62, 3) := by decide +kernel
theorem dX5_frame_84 : decode cX5_frame 84 = .ok (.putfield 25, 3) := by decide +kernel
theorem dX5_frame_87 : decode cX5_frame 87 = .ok (.aload_n 0, 1) := by decide +kernel
theorem dX5_frame_88 : decode cX5_frame 88 = .ok (.iload_n 1, 1) := by decide +kernel
theorem dX5_frame_89 : decode cX5_frame 89 = .ok (.putfield 28, 3) := by decide +kernel
theorem dX5_frame_92 : decode cX5_frame 92 = .ok (.iinc 1 1, 3) := by decide +kernel
theorem dX5_frame_95 : decode cX5_frame 95 = .ok (.goto (-71), 3) := by decide +kernel
theorem dX5_frame_98 : decode cX5_frame 98 = .ok (.return_, 1) := by decide +kernel
theorem dX5_planPart_0 : decode cX5_planPart 0 = .ok (.iload_n 1, 1) := by decide +kernel
theorem dX5_planPart_1 : decode cX5_planPart 1 = .ok (.iload_n 2, 1) := by decide +kernel
theorem dX5_planPart_2 : decode cX5_planPart 2 = .ok (.iload_n 3, 1) := by decide +kernel
theorem dX5_planPart_3 : decode cX5_planPart 3 = .ok (.iload 4, 2) := by decide +kernel
theorem dX5_planPart_5 : decode cX5_planPart 5 = .ok (.invokestatic 42, 3) := by decide +kernel
theorem dX5_planPart_8 : decode cX5_planPart 8 = .ok (.istore 5, 2) := by decide +kernel
theorem dX5_planPart_10 : decode cX5_planPart 10 = .ok (.aload_n 0, 1) := by decide +kernel
theorem dX5_planPart_11 : decode cX5_planPart 11 = .ok (.getfield 15, 3) := by decide +kernel
theorem dX5_planPart_14 : decode cX5_planPart 14 = .ok (.iload_n 1, 1) := by decide +kernel
theorem dX5_planPart_15 : decode cX5_planPart 15 = .ok (.iload_n 2, 1) := by decide +kernel
end
section
theorem dX5_planPart_16 : decode cX5_planPart 16 = .ok (.iload_n 3, 1) := by decide +kernel
theorem dX5_planPart_17 : decode cX5_planPart 17 = .ok (.iload 4, 2) := by decide +kernel
theorem dX5_planPart_19 : decode cX5_planPart 19 = .ok (.invokestatic 71, 3) := by decide +kernel
theorem dX5_planPart_22 : decode cX5_planPart 22 = .ok (.land, 1) := by decide +kernel
theorem dX5_planPart_23 : decode cX5_planPart 23 = .ok (.lstore 6, 2) := by decide +kernel
theorem dX5_planPart_25 : decode cX5_planPart 25 = .ok (.aload_n 0, 1) := by decide +kernel
theorem dX5_planPart_26 : decode cX5_planPart 26 = .ok (.getfield 38, 3) := by decide +kernel
theorem dX5_planPart_29 : decode cX5_planPart 29 = .ok (.lload 6, 2) := by decide +kernel
theorem dX5_planPart_31 : decode cX5_planPart 31 = .ok (.invokevirtual 75, 3) := by decide +kernel
theorem dX5_planPart_34 : decode cX5_planPart 34 = .ok (.istore 8, 2) := by decide +kernel
theorem dX5_planPart_36 : decode cX5_planPart 36 = .ok (.aload_n 0, 1) := by decide +kernel
theorem dX5_planPart_37 : decode cX5_planPart 37 = .ok (.getfield 35, 3) := by decide +kernel
theorem dX5_planPart_40 : decode cX5_planPart 40 = .ok (.iload 5, 2) := by decide +kernel
theorem dX5_planPart_42 : decode cX5_planPart 42 = .ok (.iconst (-1), 1) := by decide +kernel
theorem dX5_planPart_43 : decode cX5_planPart 43 = .ok (.iastore, 1) := by decide +kernel
theorem dX5_planPart_44 : decode cX5_planPart 44 = .ok (.iload 8, 2) := by decide +kernel
theorem dX5_planPart_46 : decode cX5_planPart 46 = .ok (.iconst (-1), 1) := by decide +kernel
theorem dX5_planPart_47 : decode cX5_planPart 47 = .ok (.if_icmp .eq 17, 3) := by decide +kernel
theorem dX5_planPart_50 : decode cX5_planPart 50 = .ok (.aload_n 0, 1) := by decide +kernel
theorem dX5_planPart_51 : decode cX5_planPart 51 = .ok (.getfield 31, 3) := by decide +kernel
theorem dX5_planPart_54 : decode cX5_planPart 54 = .ok (.iload 5, 2) := by decide +kernel
theorem dX5_planPart_56 : decode cX5_planPart 56 = .ok (.iload 8, 2) := by decide +kernel
theorem dX5_planPart_58 : decode cX5_planPart 58 = .ok (.sipush 128, 3) := by decide +kernel
theorem dX5_planPart_61 : decode cX5_planPart 61 = .ok (.imul, 1) := by decide +kernel
theorem dX5_planPart_62 : decode cX5_planPart 62 = .ok (.iastore, 1) := by decide +kernel
theorem dX5_planPart_63 : decode cX5_planPart 63 = .ok (.return_, 1) := by decide +kernel
theorem dX5_planPart_64 : decode cX5_planPart 64 = .ok (.aload_n 0, 1) := by decide +kernel
theorem dX5_planPart_65 : decode cX5_planPart 65 = .ok (.getfield 31, 3) := by decide +kernel
theorem dX5_planPart_68 : decode cX5_planPart 68 = .ok (.iload 5, 2) := by decide +kernel
theorem dX5_planPart_70 : decode cX5_planPart 70 = .ok (.ldc 79, 2) := by decide +kernel
theorem dX5_planPart_72 : decode cX5_planPart 72 = .ok (.iastore, 1) := by decide +kernel
theorem dX5_planPart_73 : decode cX5_planPart 73 = .ok (.iload_n 1, 1) := by decide +kernel
theorem dX5_planPart_74 : decode cX5_planPart 74 = .ok (.istore 9, 2) := by decide +kernel
theorem dX5_planPart_76 : decode cX5_planPart 76 = .ok (.iload 9, 2) := by decide +kernel
theorem dX5_planPart_78 : decode cX5_planPart 78 = .ok (.iload_n 2, 1) := by decide +kernel
theorem dX5_planPart_79 : decode cX5_planPart 79 = .ok (.if_icmp .ge 64, 3) := by decide +kernel
theorem dX5_planPart_82 : decode cX5_planPart 82 = .ok (.aload_n 0, 1) := by decide +kernel
theorem dX5_planPart_83 : decode cX5_planPart 83 = .ok (.getfield 31, 3) := by decide +kernel
theorem dX5_planPart_86 : decode cX5_planPart 86 = .ok (.iload_n 1, 1) := by decide +kernel
theorem dX5_planPart_87 : decode cX5_planPart 87 = .ok (.iload 9, 2) := by decide +kernel
theorem dX5_planPart_89 : decode cX5_planPart 89 = .ok (.iload_n 3, 1) := by decide +kernel
theorem dX5_planPart_90 : decode cX5_planPart 90 = .ok (.iload 4, 2) := by decide +kernel
theorem dX5_planPart_92 : decode cX5_planPart 92 = .ok (.invokestatic 42, 3) := by decide +kernel
theorem dX5_planPart_95 : decode cX5_planPart 95 = .ok (.iaload, 1) := by decide +kernel
theorem dX5_planPart_96 : decode cX5_planPart 96 = .ok (.aload_n 0, 1) := by decide +kernel
theorem dX5_planPart_97 : decode cX5_planPart 97 = .ok (.getfield 31, 3) := by decide +kernel
theorem dX5_planPart_100 : decode cX5_planPart 100 = .ok (.iload 9, 2) := by decide +kernel
theorem dX5_planPart_102 : decode cX5_planPart 102 = .ok (.iconst 1, 1) := by decide +kernel
theorem dX5_planPart_103 : decode cX5_planPart 103 = .ok (.iadd, 1) := by decide +kernel
theorem dX5_planPart_104 : decode cX5_planPart 104 = .ok (.iload_n 2, 1) := by decide +kernel
theorem dX5_planPart_105 : decode cX5_planPart 105 = .ok (.iload_n 3, 1) := by decide +kernel
theorem dX5_planPart_106 : decode cX5_planPart 106 = .ok (.iload 4, 2) := by decide +kernel
theorem dX5_planPart_108 : decode cX5_planPart 108 = .ok (.invokestatic 42, 3) := by decide +kernel
theorem dX5_planPart_111 : decode cX5_planPart 111 = .ok (.iaload, 1) := by decide +kernel
theorem dX5_planPart_112 : decode cX5_planPart 112 = .ok (.iadd, 1) := by decide +kernel
theorem dX5_planPart_113 : decode cX5_planPart 113 = .ok (.aload_n 0, 1) := by decide +kernel
theorem dX5_planPart_114 : decode cX5_planPart 114 = .ok (.lload 6, 2) := by decide +kernel
theorem dX5_planPart_116 : decode cX5_planPart 116 = .ok (.iload 9, 2) := by decide +kernel
theorem dX5_planPart_118 : decode cX5_planPart 118 = .ok (.invokevirtual 80, 3) := by decide +kernel
theorem dX5_planPart_121 : decode cX5_planPart 121 = .ok (.invokestatic 84, 3) := by decide +kernel
theorem dX5_planPart_124 : decode cX5_planPart 124 = .ok (.iadd, 1) := by decide +kernel
theorem dX5_planPart_125 : decode cX5_planPart 125 = .ok (.istore 10, 2) := by decide +kernel
theorem dX5_planPart_127 : decode cX5_planPart 127 = .ok (.aload_n 0, 1) := by decide +kernel
theorem dX5_planPart_128 : decode cX5_planPart 128 = .ok (.iload 5, 2) := by decide +kernel
theorem dX5_planPart_130 : decode cX5_planPart 130 = .ok (.iload 10, 2) := by decide +kernel
theorem dX5_planPart_132 : decode cX5_planPart 132 = .ok (.iload 9, 2) := by decide +kernel
theorem dX5_planPart_134 : decode cX5_planPart 134 = .ok (.invokevirtual 89, 3) := by decide +kernel
theorem dX5_planPart_137 : decode cX5_planPart 137 = .ok (.iinc 9 1, 3) := by decide +kernel
theorem dX5_planPart_140 : decode cX5_planPart 140 = .ok (.goto (-64), 3) := by decide +kernel
theorem dX5_planPart_143 : decode cX5_planPart 143 = .ok (.iload_n 3, 1) := by decide +kernel
theorem dX5_planPart_144 : decode cX5_planPart 144 = .ok (.istore 9, 2) := by decide +kernel
theorem dX5_planPart_146 : decode cX5_planPart 146 = .ok (.iload 9, 2) := by decide +kernel
theorem dX5_planPart_148 : decode cX5_planPart 148 = .ok (.iload 4, 2) := by decide +kernel
theorem dX5_planPart_150 : decode cX5_planPart 150 = .ok (.if_icmp .ge 66, 3) := by decide +kernel
theorem dX5_planPart_153 : decode cX5_planPart 153 = .ok (.aload_n 0, 1) := by decide +kernel
theorem dX5_planPart_154 : decode cX5_planPart 154 = .ok (.getfield 31, 3) := by decide +kernel
theorem dX5_planPart_157 : decode cX5_planPart 157 = .ok (.iload_n 1, 1) := by decide +kernel
theorem dX5_planPart_158 : decode cX5_planPart 158 = .ok (.iload_n 2, 1) := by decide +kernel
theorem dX5_planPart_159 : decode cX5_planPart 159 = .ok (.iload_n 3, 1) := by decide +kernel
theorem dX5_planPart_160 : decode cX5_planPart 160 = .ok (.iload 9, 2) := by decide +kernel
theorem dX5_planPart_162 : decode cX5_planPart 162 = .ok (.invokestatic 42, 3) := by decide +kernel
theorem dX5_planPart_165 : decode cX5_planPart 165 = .ok (.iaload, 1) := by decide +kernel
theorem dX5_planPart_166 : decode cX5_planPart 166 = .ok (.aload_n 0, 1) := by decide +kernel
theorem dX5_planPart_167 : decode cX5_planPart 167 = .ok (.getfield 31, 3) := by decide +kernel
theorem dX5_planPart_170 : decode cX5_planPart 170 = .ok (.iload_n 1, 1) := by decide +kernel
theorem dX5_planPart_171 : decode cX5_planPart 171 = .ok (.iload_n 2, 1) := by decide +kernel
theorem dX5_planPart_172 : decode cX5_planPart 172 = .ok (.iload 9, 2) := by decide +kernel
theorem dX5_planPart_174 : decode cX5_planPart 174 = .ok (.iconst 1, 1) := by decide +kernel
theorem dX5_planPart_175 : decode cX5_planPart 175 = .ok (.iadd, 1) := by decide +kernel
theorem dX5_planPart_176 : decode cX5_planPart 176 = .ok (.iload 4, 2) := by decide +kernel
theorem dX5_planPart_178 : decode cX5_planPart 178 = .ok (.invokestatic 42, 3) := by decide +kernel
theorem dX5_planPart_181 : decode cX5_planPart 181 = .ok (.iaload, 1) := by decide +kernel
theorem dX5_planPart_182 : decode cX5_planPart 182 = .ok (.iadd, 1) := by decide +kernel
theorem dX5_planPart_183 : decode cX5_planPart 183 = .ok (.aload_n 0, 1) := by decide +kernel
theorem dX5_planPart_184 : decode cX5_planPart 184 = .ok (.lload 6, 2) := by decide +kernel
theorem dX5_planPart_186 : decode cX5_planPart 186 = .ok (.iload 9, 2) := by decide +kernel
theorem dX5_planPart_188 : decode cX5_planPart 188 = .ok (.invokevirtual 93, 3) := by decide +kernel
theorem dX5_planPart_191 : decode cX5_planPart 191 = .ok (.invokestatic 84, 3) := by decide +kernel
theorem dX5_planPart_194 : decode cX5_planPart 194 = .ok (.iadd, 1) := by decide +kernel
theorem dX5_planPart_195 : decode cX5_planPart 195 = .ok (.istore 10, 2) := by decide +kernel
theorem dX5_planPart_197 : decode cX5_planPart 197 = .ok (.aload_n 0, 1) := by decide +kernel
theorem dX5_planPart_198 : decode cX5_planPart 198 = .ok (.iload 5, 2) := by decide +kernel
theorem dX5_planPart_200 : decode cX5_planPart 200 = .ok (.iload 10, 2) := by decide +kernel
theorem dX5_planPart_202 : decode cX5_planPart 202 = .ok (.bipush 7, 2) := by decide +kernel
theorem dX5_planPart_204 : decode cX5_planPart 204 = .ok (.iload 9, 2) := by decide +kernel
theorem dX5_planPart_206 : decode cX5_planPart 206 = .ok (.iadd, 1) := by decide +kernel
theorem dX5_planPart_207 : decode cX5_planPart 207 = .ok (.invokevirtual 89, 3) := by decide +kernel
theorem dX5_planPart_210 : decode cX5_planPart 210 = .ok (.iinc 9 1, 3) := by decide +kernel
theorem dX5_planPart_213 : decode cX5_planPart 213 = .ok (.goto (-67), 3) := by decide +kernel
theorem dX5_planPart_216 : decode cX5_planPart 216 = .ok (.return_, 1) := by decide +kernel
theorem dX5_offer_0 : decode cX5_offer 0 = .ok (.iload_n 2, 1) := by decide +kernel
theorem dX5_offer_1 : decode cX5_offer 1 = .ok (.aload_n 0, 1) := by decide +kernel
theorem dX5_offer_2 : decode cX5_offer 2 = .ok (.getfield 31, 3) := by decide +kernel
theorem dX5_offer_5 : decode cX5_offer 5 = .ok (.iload_n 1, 1) := by decide +kernel
theorem dX5_offer_6 : decode cX5_offer 6 = .ok (.iaload, 1) := by decide +kernel
theorem dX5_offer_7 : decode cX5_offer 7 = .ok (.if_icmp .ge 17, 3) := by decide +kernel
theorem dX5_offer_10 : decode cX5_offer 10 = .ok (.aload_n 0, 1) := by decide +kernel
theorem dX5_offer_11 : decode cX5_offer 11 = .ok (.getfield 31, 3) := by decide +kernel
theorem dX5_offer_14 : decode cX5_offer 14 = .ok (.iload_n 1, 1) := by decide +kernel
theorem dX5_offer_15 : decode cX5_offer 15 = .ok (.iload_n 2, 1) := by decide +kernel
theorem dX5_offer_16 : decode cX5_offer 16 = .ok (.iastore, 1) := by decide +kernel
theorem dX5_offer_17 : decode cX5_offer 17 = .ok (.aload_n 0, 1) := by decide +kernel
theorem dX5_offer_18 : decode cX5_offer 18 = .ok (.getfield 35, 3) := by decide +kernel
theorem dX5_offer_21 : decode cX5_offer 21 = .ok (.iload_n 1, 1) := by decide +kernel
theorem dX5_offer_22 : decode cX5_offer 22 = .ok (.iload_n 3, 1) := by decide +kernel
theorem dX5_offer_23 : decode cX5_offer 23 = .ok (.iastore, 1) := by decide +kernel
theorem dX5_offer_24 : decode cX5_offer 24 = .ok (.return_, 1) := by decide +kernel
theorem dX5_crossedBelow_0 : decode cX5_crossedBelow 0 = .ok (.lload_n 1, 1) := by decide +kernel
theorem dX5_crossedBelow_1 : decode cX5_crossedBelow 1 = .ok (.aload_n 0, 1) := by decide +kernel
theorem dX5_crossedBelow_2 : decode cX5_crossedBelow 2 = .ok (.getfield 38, 3) := by decide +kernel
theorem dX5_crossedBelow_5 : decode cX5_crossedBelow 5 = .ok (.getfield 96, 3) := by decide +kernel
theorem dX5_crossedBelow_8 : decode cX5_crossedBelow 8 = .ok (.land, 1) := by decide +kernel
theorem dX5_crossedBelow_9 : decode cX5_crossedBelow 9 = .ok (.iload_n 3, 1) := by decide +kernel
theorem dX5_crossedBelow_10 : decode cX5_crossedBelow 10 = .ok (.invokestatic 58, 3) := by decide +kernel
theorem dX5_crossedBelow_13 : decode cX5_crossedBelow 13 = .ok (.land, 1) := by decide +kernel
theorem dX5_crossedBelow_14 : decode cX5_crossedBelow 14 = .ok (.lreturn, 1) := by decide +kernel
theorem dX5_crossedRight_0 : decode cX5_crossedRight 0 = .ok (.lload_n 1, 1) := by decide +kernel
theorem dX5_crossedRight_1 : decode cX5_crossedRight 1 = .ok (.aload_n 0, 1) := by decide +kernel
theorem dX5_crossedRight_2 : decode cX5_crossedRight 2 = .ok (.getfield 38, 3) := by decide +kernel
theorem dX5_crossedRight_5 : decode cX5_crossedRight 5 = .ok (.getfield 99, 3) := by decide +kernel
theorem dX5_crossedRight_8 : decode cX5_crossedRight 8 = .ok (.land, 1) := by decide +kernel
theorem dX5_crossedRight_9 : decode cX5_crossedRight 9 = .ok (.iload_n 3, 1) := by decide +kernel
theorem dX5_crossedRight_10 : decode cX5_crossedRight 10 = .ok (.invokestatic 68, 3) := by decide +kernel
theorem dX5_crossedRight_13 : decode cX5_crossedRight 13 = .ok (.land, 1) := by decide +kernel
theorem dX5_crossedRight_14 : decode cX5_crossedRight 14 = .ok (.lreturn, 1) := by decide +kernel
theorem dX5_cut_0 : decode cX5_cut 0 = .ok (.aload_n 0, 1) := by decide +kernel
theorem dX5_cut_1 : decode cX5_cut 1 = .ok (.aload_n 1, 1) := by decide +kernel
theorem dX5_cut_2 : decode cX5_cut 2 = .ok (.aload_n 0, 1) := by decide +kernel
theorem dX5_cut_3 : decode cX5_cut 3 = .ok (.getfield 19, 3) := by decide +kernel
theorem dX5_cut_6 : decode cX5_cut 6 = .ok (.aload_n 0, 1) := by decide +kernel
theorem dX5_cut_7 : decode cX5_cut 7 = .ok (.getfield 22, 3) := by decide +kernel
theorem dX5_cut_10 : decode cX5_cut 10 = .ok (.aload_n 0, 1) := by decide +kernel
theorem dX5_cut_11 : decode cX5_cut 11 = .ok (.getfield 25, 3) := by decide +kernel
theorem dX5_cut_14 : decode cX5_cut 14 = .ok (.aload_n 0, 1) := by decide +kernel
theorem dX5_cut_15 : decode cX5_cut 15 = .ok (.getfield 28, 3) := by decide +kernel
theorem dX5_cut_18 : decode cX5_cut 18 = .ok (.iconst 0, 1) := by decide +kernel
theorem dX5_cut_19 : decode cX5_cut 19 = .ok (.invokevirtual 102, 3) := by decide +kernel
theorem dX5_cut_22 : decode cX5_cut 22 = .ok (.return_, 1) := by decide +kernel
theorem dX5_cutPart_0 : decode cX5_cutPart 0 = .ok (.aload_n 0, 1) := by decide +kernel
theorem dX5_cutPart_1 : decode cX5_cutPart 1 = .ok (.getfield 35, 3) := by decide +kernel
theorem dX5_cutPart_4 : decode cX5_cutPart 4 = .ok (.iload_n 2, 1) := by decide +kernel
theorem dX5_cutPart_5 : decode cX5_cutPart 5 = .ok (.iload_n 3, 1) := by decide +kernel
theorem dX5_cutPart_6 : decode cX5_cutPart 6 = .ok (.iload 4, 2) := by decide +kernel
theorem dX5_cutPart_8 : decode cX5_cutPart 8 = .ok (.iload 5, 2) := by decide +kernel
theorem dX5_cutPart_10 : decode cX5_cutPart 10 = .ok (.invokestatic 42, 3) := by decide +kernel
theorem dX5_cutPart_13 : decode cX5_cutPart 13 = .ok (.iaload, 1) := by decide +kernel
theorem dX5_cutPart_14 : decode cX5_cutPart 14 = .ok (.istore 7, 2) := by decide +kernel
theorem dX5_cutPart_16 : decode cX5_cutPart 16 = .ok (.iload 7, 2) := by decide +kernel
theorem dX5_cutPart_18 : decode cX5_cutPart 18 = .ok (.iconst (-1), 1) := by decide +kernel
theorem dX5_cutPart_19 : decode cX5_cutPart 19 = .ok (.if_icmp .eq 10, 3) := by decide +kernel
theorem dX5_cutPart_22 : decode cX5_cutPart 22 = .ok (.iload 6, 2) := by decide +kernel
theorem dX5_cutPart_24 : decode cX5_cutPart 24 = .ok (.bipush 14, 2) := by decide +kernel
theorem dX5_cutPart_26 : decode cX5_cutPart 26 = .ok (.if_icmp .le 4, 3) := by decide +kernel
theorem dX5_cutPart_29 : decode cX5_cutPart 29 = .ok (.return_, 1) := by decide +kernel
theorem dX5_cutPart_30 : decode cX5_cutPart 30 = .ok (.aload_n 0, 1) := by decide +kernel
theorem dX5_cutPart_31 : decode cX5_cutPart 31 = .ok (.getfield 15, 3) := by decide +kernel
theorem dX5_cutPart_34 : decode cX5_cutPart 34 = .ok (.iload_n 2, 1) := by decide +kernel
theorem dX5_cutPart_35 : decode cX5_cutPart 35 = .ok (.iload_n 3, 1) := by decide +kernel
theorem dX5_cutPart_36 : decode cX5_cutPart 36 = .ok (.iload 4, 2) := by decide +kernel
theorem dX5_cutPart_38 : decode cX5_cutPart 38 = .ok (.iload 5, 2) := by decide +kernel
theorem dX5_cutPart_40 : decode cX5_cutPart 40 = .ok (.invokestatic 71, 3) := by decide +kernel
theorem dX5_cutPart_43 : decode cX5_cutPart 43 = .ok (.land, 1) := by decide +kernel
theorem dX5_cutPart_44 : decode cX5_cutPart 44 = .ok (.lstore 8, 2) := by decide +kernel
theorem dX5_cutPart_46 : decode cX5_cutPart 46 = .ok (.iload 7, 2) := by decide +kernel
theorem dX5_cutPart_48 : decode cX5_cutPart 48 = .ok (.bipush 7, 2) := by decide +kernel
theorem dX5_cutPart_50 : decode cX5_cutPart 50 = .ok (.if_icmp .ge 57, 3) := by decide +kernel
theorem dX5_cutPart_53 : decode cX5_cutPart 53 = .ok (.aload_n 1, 1) := by decide +kernel
theorem dX5_cutPart_54 : decode cX5_cutPart 54 = .ok (.dup, 1) := by decide +kernel
theorem dX5_cutPart_55 : decode cX5_cutPart 55 = .ok (.getfield 106, 3) := by decide +kernel
theorem dX5_cutPart_58 : decode cX5_cutPart 58 = .ok (.aload_n 0, 1) := by decide +kernel
theorem dX5_cutPart_59 : decode cX5_cutPart 59 = .ok (.lload 8, 2) := by decide +kernel
theorem dX5_cutPart_61 : decode cX5_cutPart 61 = .ok (.iload 7, 2) := by decide +kernel
theorem dX5_cutPart_63 : decode cX5_cutPart 63 = .ok (.invokevirtual 80, 3) := by decide +kernel
theorem dX5_cutPart_66 : decode cX5_cutPart 66 = .ok (.lor, 1) := by decide +kernel
theorem dX5_cutPart_67 : decode cX5_cutPart 67 = .ok (.putfield 106, 3) := by decide +kernel
theorem dX5_cutPart_70 : decode cX5_cutPart 70 = .ok (.aload_n 0, 1) := by decide +kernel
theorem dX5_cutPart_71 : decode cX5_cutPart 71 = .ok (.aload_n 1, 1) := by decide +kernel
theorem dX5_cutPart_72 : decode cX5_cutPart 72 = .ok (.iload_n 2, 1) := by decide +kernel
theorem dX5_cutPart_73 : decode cX5_cutPart 73 = .ok (.iload 7, 2) := by decide +kernel
theorem dX5_cutPart_75 : decode cX5_cutPart 75 = .ok (.iload 4, 2) := by decide +kernel
theorem dX5_cutPart_77 : decode cX5_cutPart 77 = .ok (.iload 5, 2) := by decide +kernel
theorem dX5_cutPart_79 : decode cX5_cutPart 79 = .ok (.iload 6, 2) := by decide +kernel
theorem dX5_cutPart_81 : decode cX5_cutPart 81 = .ok (.iconst 1, 1) := by decide +kernel
theorem dX5_cutPart_82 : decode cX5_cutPart 82 = .ok (.iadd, 1) := by decide +kernel
theorem dX5_cutPart_83 : decode cX5_cutPart 83 = .ok (.invokevirtual 102, 3) := by decide +kernel
theorem dX5_cutPart_86 : decode cX5_cutPart 86 = .ok (.aload_n 0, 1) := by decide +kernel
theorem dX5_cutPart_87 : decode cX5_cutPart 87 = .ok (.aload_n 1, 1) := by decide +kernel
theorem dX5_cutPart_88 : decode cX5_cutPart 88 = .ok (.iload 7, 2) := by decide +kernel
theorem dX5_cutPart_90 : decode cX5_cutPart 90 = .ok (.iconst 1, 1) := by decide +kernel
theorem dX5_cutPart_91 : decode cX5_cutPart 91 = .ok (.iadd, 1) := by decide +kernel
theorem dX5_cutPart_92 : decode cX5_cutPart 92 = .ok (.iload_n 3, 1) := by decide +kernel
theorem dX5_cutPart_93 : decode cX5_cutPart 93 = .ok (.iload 4, 2) := by decide +kernel
theorem dX5_cutPart_95 : decode cX5_cutPart 95 = .ok (.iload 5, 2) := by decide +kernel
theorem dX5_cutPart_97 : decode cX5_cutPart 97 = .ok (.iload 6, 2) := by decide +kernel
theorem dX5_cutPart_99 : decode cX5_cutPart 99 = .ok (.iconst 1, 1) := by decide +kernel
theorem dX5_cutPart_100 : decode cX5_cutPart 100 = .ok (.iadd, 1) := by decide +kernel
theorem dX5_cutPart_101 : decode cX5_cutPart 101 = .ok (.invokevirtual 102, 3) := by decide +kernel
theorem dX5_cutPart_104 : decode cX5_cutPart 104 = .ok (.goto 59, 3) := by decide +kernel
theorem dX5_cutPart_107 : decode cX5_cutPart 107 = .ok (.iload 7, 2) := by decide +kernel
theorem dX5_cutPart_109 : decode cX5_cutPart 109 = .ok (.bipush 7, 2) := by decide +kernel
theorem dX5_cutPart_111 : decode cX5_cutPart 111 = .ok (.isub, 1) := by decide +kernel
theorem dX5_cutPart_112 : decode cX5_cutPart 112 = .ok (.istore 10, 2) := by decide +kernel
theorem dX5_cutPart_114 : decode cX5_cutPart 114 = .ok (.aload_n 1, 1) := by decide +kernel
theorem dX5_cutPart_115 : decode cX5_cutPart 115 = .ok (.dup, 1) := by decide +kernel
theorem dX5_cutPart_116 : decode cX5_cutPart 116 = .ok (.getfield 111, 3) := by decide +kernel
theorem dX5_cutPart_119 : decode cX5_cutPart 119 = .ok (.aload_n 0, 1) := by decide +kernel
theorem dX5_cutPart_120 : decode cX5_cutPart 120 = .ok (.lload 8, 2) := by decide +kernel
theorem dX5_cutPart_122 : decode cX5_cutPart 122 = .ok (.iload 10, 2) := by decide +kernel
theorem dX5_cutPart_124 : decode cX5_cutPart 124 = .ok (.invokevirtual 93, 3) := by decide +kernel
theorem dX5_cutPart_127 : decode cX5_cutPart 127 = .ok (.lor, 1) := by decide +kernel
theorem dX5_cutPart_128 : decode cX5_cutPart 128 = .ok (.putfield 111, 3) := by decide +kernel
theorem dX5_cutPart_131 : decode cX5_cutPart 131 = .ok (.aload_n 0, 1) := by decide +kernel
theorem dX5_cutPart_132 : decode cX5_cutPart 132 = .ok (.aload_n 1, 1) := by decide +kernel
theorem dX5_cutPart_133 : decode cX5_cutPart 133 = .ok (.iload_n 2, 1) := by decide +kernel
theorem dX5_cutPart_134 : decode cX5_cutPart 134 = .ok (.iload_n 3, 1) := by decide +kernel
theorem dX5_cutPart_135 : decode cX5_cutPart 135 = .ok (.iload 4, 2) := by decide +kernel
theorem dX5_cutPart_137 : decode cX5_cutPart 137 = .ok (.iload 10, 2) := by decide +kernel
theorem dX5_cutPart_139 : decode cX5_cutPart 139 = .ok (.iload 6, 2) := by decide +kernel
theorem dX5_cutPart_141 : decode cX5_cutPart 141 = .ok (.iconst 1, 1) := by decide +kernel
theorem dX5_cutPart_142 : decode cX5_cutPart 142 = .ok (.iadd, 1) := by decide +kernel
theorem dX5_cutPart_143 : decode cX5_cutPart 143 = .ok (.invokevirtual 102, 3) := by decide +kernel
theorem dX5_cutPart_146 : decode cX5_cutPart 146 = .ok (.aload_n 0, 1) := by decide +kernel
theorem dX5_cutPart_147 : decode cX5_cutPart 147 = .ok (.aload_n 1, 1) := by decide +kernel
theorem dX5_cutPart_148 : decode cX5_cutPart 148 = .ok (.iload_n 2, 1) := by decide +kernel
theorem dX5_cutPart_149 : decode cX5_cutPart 149 = .ok (.iload_n 3, 1) := by decide +kernel
theorem dX5_cutPart_150 : decode cX5_cutPart 150 = .ok (.iload 10, 2) := by decide +kernel
theorem dX5_cutPart_152 : decode cX5_cutPart 152 = .ok (.iconst 1, 1) := by decide +kernel
theorem dX5_cutPart_153 : decode cX5_cutPart 153 = .ok (.iadd, 1) := by decide +kernel
theorem dX5_cutPart_154 : decode cX5_cutPart 154 = .ok (.iload 5, 2) := by decide +kernel
theorem dX5_cutPart_156 : decode cX5_cutPart 156 = .ok (.iload 6, 2) := by decide +kernel
theorem dX5_cutPart_158 : decode cX5_cutPart 158 = .ok (.iconst 1, 1) := by decide +kernel
theorem dX5_cutPart_159 : decode cX5_cutPart 159 = .ok (.iadd, 1) := by decide +kernel
theorem dX5_cutPart_160 : decode cX5_cutPart 160 = .ok (.invokevirtual 102, 3) := by decide +kernel
theorem dX5_cutPart_163 : decode cX5_cutPart 163 = .ok (.return_, 1) := by decide +kernel
theorem dX5_place_0 : decode cX5_place 0 = .ok (.iload_n 0, 1) := by decide +kernel
theorem dX5_place_1 : decode cX5_place 1 = .ok (.iload_n 1, 1) := by decide +kernel
theorem dX5_place_2 : decode cX5_place 2 = .ok (.invokestatic 114, 3) := by decide +kernel
theorem dX5_place_5 : decode cX5_place 5 = .ok (.bipush 28, 2) := by decide +kernel
theorem dX5_place_7 : decode cX5_place 7 = .ok (.imul, 1) := by decide +kernel
theorem dX5_place_8 : decode cX5_place 8 = .ok (.iload_n 2, 1) := by decide +kernel
theorem dX5_place_9 : decode cX5_place 9 = .ok (.iload_n 3, 1) := by decide +kernel
theorem dX5_place_10 : decode cX5_place 10 = .ok (.invokestatic 114, 3) := by decide +kernel
theorem dX5_place_13 : decode cX5_place 13 = .ok (.iadd, 1) := by decide +kernel
theorem dX5_place_14 : decode cX5_place 14 = .ok (.ireturn, 1) := by decide +kernel
theorem dX5_span_0 : decode cX5_span 0 = .ok (.iload_n 1, 1) := by decide +kernel
theorem dX5_span_1 : decode cX5_span 1 = .ok (.iload_n 1, 1) := by decide +kernel
theorem dX5_span_2 : decode cX5_span 2 = .ok (.iconst 1, 1) := by decide +kernel
theorem dX5_span_3 : decode cX5_span 3 = .ok (.iadd, 1) := by decide +kernel
theorem dX5_span_4 : decode cX5_span 4 = .ok (.imul, 1) := by decide +kernel
theorem dX5_span_5 : decode cX5_span 5 = .ok (.iconst 2, 1) := by decide +kernel
theorem dX5_span_6 : decode cX5_span 6 = .ok (.idiv, 1) := by decide +kernel
theorem dX5_span_7 : decode cX5_span 7 = .ok (.iload_n 0, 1) := by decide +kernel
theorem dX5_span_8 : decode cX5_span 8 = .ok (.iadd, 1) := by decide +kernel
theorem dX5_span_9 : decode cX5_span 9 = .ok (.ireturn, 1) := by decide +kernel
theorem dX6_init_0 : decode cX6_init 0 = .ok (.aload_n 0, 1) := by decide +kernel
theorem dX6_init_1 : decode cX6_init 1 = .ok (.invokespecial 5, 3) := by decide +kernel
theorem dX6_init_4 : decode cX6_init 4 = .ok (.aload_n 0, 1) := by decide +kernel
theorem dX6_init_5 : decode cX6_init 5 = .ok (.bipush 80, 2) := by decide +kernel
theorem dX6_init_7 : decode cX6_init 7 = .ok (.newarray .int, 2) := by decide +kernel
theorem dX6_init_9 : decode cX6_init 9 = .ok (.putfield 11, 3) := by decide +kernel
theorem dX6_init_12 : decode cX6_init 12 = .ok (.aload_n 0, 1) := by decide +kernel
theorem dX6_init_13 : decode cX6_init 13 = .ok (.iconst 0, 1) := by decide +kernel
theorem dX6_init_14 : decode cX6_init 14 = .ok (.putfield 15, 3) := by decide +kernel
theorem dX6_init_17 : decode cX6_init 17 = .ok (.return_, 1) := by decide +kernel
theorem dX6_append_0 : decode cX6_append 0 = .ok (.aload_n 0, 1) := by decide +kernel
theorem dX6_append_1 : decode cX6_append 1 = .ok (.getfield 15, 3) := by decide +kernel
theorem dX6_append_4 : decode cX6_append 4 = .ok (.bipush 80, 2) := by decide +kernel
theorem dX6_append_6 : decode cX6_append 6 = .ok (.if_icmp .lt 5, 3) := by decide +kernel
theorem dX6_append_9 : decode cX6_append 9 = .ok (.iconst 0, 1) := by decide +kernel
theorem dX6_append_10 : decode cX6_append 10 = .ok (.ireturn, 1) := by decide +kernel
theorem dX6_append_11 : decode cX6_append 11 = .ok (.aload_n 0, 1) := by decide +kernel
theorem dX6_append_12 : decode cX6_append 12 = .ok (.getfield 11, 3) := by decide +kernel
theorem dX6_append_15 : decode cX6_append 15 = .ok (.aload_n 0, 1) := by decide +kernel
theorem dX6_append_16 : decode cX6_append 16 = .ok (.getfield 15, 3) := by decide +kernel
theorem dX6_append_19 : decode cX6_append 19 = .ok (.iload_n 1, 1) := by decide +kernel
theorem dX6_append_20 : decode cX6_append 20 = .ok (.iastore, 1) := by decide +kernel
theorem dX6_append_21 : decode cX6_append 21 = .ok (.aload_n 0, 1) := by decide +kernel
theorem dX6_append_22 : decode cX6_append 22 = .ok (.dup, 1) := by decide +kernel
theorem dX6_append_23 : decode cX6_append 23 = .ok (.getfield 15, 3) := by decide +kernel
theorem dX6_append_26 : decode cX6_append 26 = .ok (.iconst 1, 1) := by decide +kernel
theorem dX6_append_27 : decode cX6_append 27 = .ok (.iadd, 1) := by decide +kernel
theorem dX6_append_28 : decode cX6_append 28 = .ok (.putfield 15, 3) := by decide +kernel
theorem dX6_append_31 : decode cX6_append 31 = .ok (.iconst 1, 1) := by decide +kernel
theorem dX6_append_32 : decode cX6_append 32 = .ok (.ireturn, 1) := by decide +kernel
theorem dX6_errorOffset_0 : decode cX6_errorOffset 0 = .ok (.iconst 0, 1) := by decide +kernel
theorem dX6_errorOffset_1 : decode cX6_errorOffset 1 = .ok (.istore_n 1, 1) := by decide +kernel
theorem dX6_errorOffset_2 : decode cX6_errorOffset 2 = .ok (.iconst 0, 1) := by decide +kernel
theorem dX6_errorOffset_3 : decode cX6_errorOffset 3 = .ok (.istore_n 2, 1) := by decide +kernel
theorem dX6_errorOffset_4 : decode cX6_errorOffset 4 = .ok (.iconst 0, 1) := by decide +kernel
theorem dX6_errorOffset_5 : decode cX6_errorOffset 5 = .ok (.istore_n 3, 1) := by decide +kernel
theorem dX6_errorOffset_6 : decode cX6_errorOffset 6 = .ok (.iconst 0, 1) := by decide +kernel
theorem dX6_errorOffset_7 : decode cX6_errorOffset 7 = .ok (.istore 4, 2) := by decide +kernel
theorem dX6_errorOffset_9 : decode cX6_errorOffset 9 = .ok (.iload 4, 2) := by decide +kernel
theorem dX6_errorOffset_11 : decode cX6_errorOffset 11 = .ok (.aload_n 0, 1) := by decide +kernel
theorem dX6_errorOffset_12 : decode cX6_errorOffset 12 = .ok (.getfield 15, 3) := by decide +kernel
theorem dX6_errorOffset_15 : decode cX6_errorOffset 15 = .ok (.if_icmp .ge 96, 3) := by decide +kernel
theorem dX6_errorOffset_18 : decode cX6_errorOffset 18 = .ok (.aload_n 0, 1) := by decide +kernel
theorem dX6_errorOffset_19 : decode cX6_errorOffset 19 = .ok (.getfield 11, 3) := by decide +kernel
theorem dX6_errorOffset_22 : decode cX6_errorOffset 22 = .ok (.iload 4, 2) := by decide +kernel
theorem dX6_errorOffset_24 : decode cX6_errorOffset 24 = .ok (.iaload, 1) := by decide +kernel
theorem dX6_errorOffset_25 : decode cX6_errorOffset 25 = .ok (.istore 5, 2) := by decide +kernel
theorem dX6_errorOffset_27 : decode cX6_errorOffset 27 = .ok (.iload 5, 2) := by decide +kernel
theorem dX6_errorOffset_29 : decode cX6_errorOffset 29 = .ok (.bipush 59, 2) := by decide +kernel
theorem dX6_errorOffset_31 : decode cX6_errorOffset 31 = .ok (.if_icmp .ne 29, 3) := by decide +kernel
theorem dX6_errorOffset_34 : decode cX6_errorOffset 34 = .ok (.iload_n 3, 1) := by decide +kernel
theorem dX6_errorOffset_35 : decode cX6_errorOffset 35 = .ok (.ifCond .eq 12, 3) := by decide +kernel
theorem dX6_errorOffset_38 : decode cX6_errorOffset 38 = .ok (.iload_n 1, 1) := by decide +kernel
theorem dX6_errorOffset_39 : decode cX6_errorOffset 39 = .ok (.ifCond .le 11, 3) := by decide +kernel
theorem dX6_errorOffset_42 : decode cX6_errorOffset 42 = .ok (.iload_n 3, 1) := by decide +kernel
theorem dX6_errorOffset_43 : decode cX6_errorOffset 43 = .ok (.iload_n 2, 1) := by decide +kernel
theorem dX6_errorOffset_44 : decode cX6_errorOffset 44 = .ok (.if_icmp .eq 6, 3) := by decide +kernel
theorem dX6_errorOffset_47 : decode cX6_errorOffset 47 = .ok (.iload 4, 2) := by decide +kernel
theorem dX6_errorOffset_49 : decode cX6_errorOffset 49 = .ok (.ireturn, 1) := by decide +kernel
theorem dX6_errorOffset_50 : decode cX6_errorOffset 50 = .ok (.iload_n 3, 1) := by decide +kernel
theorem dX6_errorOffset_51 : decode cX6_errorOffset 51 = .ok (.istore_n 2, 1) := by decide +kernel
theorem dX6_errorOffset_52 : decode cX6_errorOffset 52 = .ok (.iconst 0, 1) := by decide +kernel
theorem dX6_errorOffset_53 : decode cX6_errorOffset 53 = .ok (.istore_n 3, 1) := by decide +kernel
theorem dX6_errorOffset_54 : decode cX6_errorOffset 54 = .ok (.iinc 1 1, 3) := by decide +kernel
theorem dX6_errorOffset_57 : decode cX6_errorOffset 57 = .ok (.goto 48, 3) := by decide +kernel
theorem dX6_errorOffset_60 : decode cX6_errorOffset 60 = .ok (.iload 5, 2) := by decide +kernel
theorem dX6_errorOffset_62 : decode cX6_errorOffset 62 = .ok (.bipush 32, 2) := by decide +kernel
theorem dX6_errorOffset_64 : decode cX6_errorOffset 64 = .ok (.if_icmp .eq 41, 3) := by decide +kernel
theorem dX6_errorOffset_67 : decode cX6_errorOffset 67 = .ok (.iload_n 1, 1) := by decide +kernel
theorem dX6_errorOffset_68 : decode cX6_errorOffset 68 = .ok (.ifCond .ne 8, 3) := by decide +kernel
theorem dX6_errorOffset_71 : decode cX6_errorOffset 71 = .ok (.bipush 7, 2) := by decide +kernel
theorem dX6_errorOffset_73 : decode cX6_errorOffset 73 = .ok (.goto 4, 3) := by decide +kernel
theorem dX6_errorOffset_76 : decode cX6_errorOffset 76 = .ok (.iload_n 2, 1) := by decide +kernel
theorem dX6_errorOffset_77 : decode cX6_errorOffset 77 = .ok (.istore 6, 2) := by decide +kernel
theorem dX6_errorOffset_79 : decode cX6_errorOffset 79 = .ok (.iload 5, 2) := by decide +kernel
theorem dX6_errorOffset_81 : decode cX6_errorOffset 81 = .ok (.invokestatic 21, 3) := by decide +kernel
theorem dX6_errorOffset_84 : decode cX6_errorOffset 84 = .ok (.ifCond .eq 15, 3) := by decide +kernel
theorem dX6_errorOffset_87 : decode cX6_errorOffset 87 = .ok (.iload_n 1, 1) := by decide +kernel
theorem dX6_errorOffset_88 : decode cX6_errorOffset 88 = .ok (.bipush 7, 2) := by decide +kernel
theorem dX6_errorOffset_90 : decode cX6_errorOffset 90 = .ok (.if_icmp .eq 9, 3) := by decide +kernel
theorem dX6_errorOffset_93 : decode cX6_errorOffset 93 = .ok (.iload_n 3, 1) := by decide +kernel
theorem dX6_errorOffset_94 : decode cX6_errorOffset 94 = .ok (.iload 6, 2) := by decide +kernel
theorem dX6_errorOffset_96 : decode cX6_errorOffset 96 = .ok (.if_icmp .ne 6, 3) := by decide +kernel
theorem dX6_errorOffset_99 : decode cX6_errorOffset 99 = .ok (.iload 4, 2) := by decide +kernel
theorem dX6_errorOffset_101 : decode cX6_errorOffset 101 = .ok (.ireturn, 1) := by decide +kernel
theorem dX6_errorOffset_102 : decode cX6_errorOffset 102 = .ok (.iinc 3 1, 3) := by decide +kernel
theorem dX6_errorOffset_105 : decode cX6_errorOffset 105 = .ok (.iinc 4 1, 3) := by decide +kernel
theorem dX6_errorOffset_108 : decode cX6_errorOffset 108 = .ok (.goto (-99), 3) := by decide +kernel
theorem dX6_errorOffset_111 : decode cX6_errorOffset 111 = .ok (.iload_n 1, 1) := by decide +kernel
theorem dX6_errorOffset_112 : decode cX6_errorOffset 112 = .ok (.ifCond .eq 7, 3) := by decide +kernel
theorem dX6_errorOffset_115 : decode cX6_errorOffset 115 = .ok (.iload_n 3, 1) := by decide +kernel
theorem dX6_errorOffset_116 : decode cX6_errorOffset 116 = .ok (.ifCond .le 10, 3) := by decide +kernel
theorem dX6_errorOffset_119 : decode cX6_errorOffset 119 = .ok (.aload_n 0, 1) := by decide +kernel
theorem dX6_errorOffset_120 : decode cX6_errorOffset 120 = .ok (.getfield 15, 3) := by decide +kernel
theorem dX6_errorOffset_123 : decode cX6_errorOffset 123 = .ok (.goto 4, 3) := by decide +kernel
theorem dX6_errorOffset_126 : decode cX6_errorOffset 126 = .ok (.iconst (-1), 1) := by decide +kernel
theorem dX6_errorOffset_127 : decode cX6_errorOffset 127 = .ok (.ireturn, 1) := by decide +kernel
theorem dX6_copyTo_0 : decode cX6_copyTo 0 = .ok (.iconst 0, 1) := by decide +kernel
theorem dX6_copyTo_1 : decode cX6_copyTo 1 = .ok (.istore_n 2, 1) := by decide +kernel
theorem dX6_copyTo_2 : decode cX6_copyTo 2 = .ok (.iconst 0, 1) := by decide +kernel
theorem dX6_copyTo_3 : decode cX6_copyTo 3 = .ok (.istore_n 3, 1) := by decide +kernel
theorem dX6_copyTo_4 : decode cX6_copyTo 4 = .ok (.iconst 0, 1) := by decide +kernel
theorem dX6_copyTo_5 : decode cX6_copyTo 5 = .ok (.istore 4, 2) := by decide +kernel
theorem dX6_copyTo_7 : decode cX6_copyTo 7 = .ok (.iload 4, 2) := by decide +kernel
theorem dX6_copyTo_9 : decode cX6_copyTo 9 = .ok (.aload_n 0, 1) := by decide +kernel
theorem dX6_copyTo_10 : decode cX6_copyTo 10 = .ok (.getfield 15, 3) := by decide +kernel
theorem dX6_copyTo_13 : decode cX6_copyTo 13 = .ok (.if_icmp .ge 76, 3) := by decide +kernel
theorem dX6_copyTo_16 : decode cX6_copyTo 16 = .ok (.aload_n 0, 1) := by decide +kernel
theorem dX6_copyTo_17 : decode cX6_copyTo 17 = .ok (.getfield 11, 3) := by decide +kernel
theorem dX6_copyTo_20 : decode cX6_copyTo 20 = .ok (.iload 4, 2) := by decide +kernel
theorem dX6_copyTo_22 : decode cX6_copyTo 22 = .ok (.iaload, 1) := by decide +kernel
theorem dX6_copyTo_23 : decode cX6_copyTo 23 = .ok (.istore 5, 2) := by decide +kernel
theorem dX6_copyTo_25 : decode cX6_copyTo 25 = .ok (.iload 5, 2) := by decide +kernel
theorem dX6_copyTo_27 : decode cX6_copyTo 27 = .ok (.bipush 59, 2) := by decide +kernel
theorem dX6_copyTo_29 : decode cX6_copyTo 29 = .ok (.if_icmp .ne 16, 3) := by decide +kernel
theorem dX6_copyTo_32 : decode cX6_copyTo 32 = .ok (.aload_n 1, 1) := by decide +kernel
theorem dX6_copyTo_33 : decode cX6_copyTo 33 = .ok (.iload_n 3, 1) := by decide +kernel
theorem dX6_copyTo_34 : decode cX6_copyTo 34 = .ok (.putfield 25, 3) := by decide +kernel
theorem dX6_copyTo_37 : decode cX6_copyTo 37 = .ok (.iconst 0, 1) := by decide +kernel
theorem dX6_copyTo_38 : decode cX6_copyTo 38 = .ok (.istore_n 3, 1) := by decide +kernel
theorem dX6_copyTo_39 : decode cX6_copyTo 39 = .ok (.iinc 2 1, 3) := by decide +kernel
theorem dX6_copyTo_42 : decode cX6_copyTo 42 = .ok (.goto 41, 3) := by decide +kernel
theorem dX6_copyTo_45 : decode cX6_copyTo 45 = .ok (.iload 5, 2) := by decide +kernel
theorem dX6_copyTo_47 : decode cX6_copyTo 47 = .ok (.invokestatic 21, 3) := by decide +kernel
theorem dX6_copyTo_50 : decode cX6_copyTo 50 = .ok (.ifCond .eq 33, 3) := by decide +kernel
theorem dX6_copyTo_53 : decode cX6_copyTo 53 = .ok (.iload_n 2, 1) := by decide +kernel
theorem dX6_copyTo_54 : decode cX6_copyTo 54 = .ok (.bipush 7, 2) := by decide +kernel
theorem dX6_copyTo_56 : decode cX6_copyTo 56 = .ok (.if_icmp .ge 27, 3) := by decide +kernel
theorem dX6_copyTo_59 : decode cX6_copyTo 59 = .ok (.iload_n 3, 1) := by decide +kernel
theorem dX6_copyTo_60 : decode cX6_copyTo 60 = .ok (.bipush 7, 2) := by decide +kernel
theorem dX6_copyTo_62 : decode cX6_copyTo 62 = .ok (.if_icmp .ge 21, 3) := by decide +kernel
theorem dX6_copyTo_65 : decode cX6_copyTo 65 = .ok (.aload_n 1, 1) := by decide +kernel
theorem dX6_copyTo_66 : decode cX6_copyTo 66 = .ok (.getfield 30, 3) := by decide +kernel
theorem dX6_copyTo_69 : decode cX6_copyTo 69 = .ok (.iload_n 2, 1) := by decide +kernel
theorem dX6_copyTo_70 : decode cX6_copyTo 70 = .ok (.iload_n 3, 1) := by decide +kernel
theorem dX6_copyTo_71 : decode cX6_copyTo 71 = .ok (.invokestatic 33, 3) := by decide +kernel
theorem dX6_copyTo_74 : decode cX6_copyTo 74 = .ok (.iload 5, 2) := by decide +kernel
theorem dX6_copyTo_76 : decode cX6_copyTo 76 = .ok (.bipush 48, 2) := by decide +kernel
theorem dX6_copyTo_78 : decode cX6_copyTo 78 = .ok (.isub, 1) := by decide +kernel
theorem dX6_copyTo_79 : decode cX6_copyTo 79 = .ok (.iastore, 1) := by decide +kernel
theorem dX6_copyTo_80 : decode cX6_copyTo 80 = .ok (.iinc 3 1, 3) := by decide +kernel
theorem dX6_copyTo_83 : decode cX6_copyTo 83 = .ok (.iinc 4 1, 3) := by decide +kernel
theorem dX6_copyTo_86 : decode cX6_copyTo 86 = .ok (.goto (-79), 3) := by decide +kernel
theorem dX6_copyTo_89 : decode cX6_copyTo 89 = .ok (.aload_n 1, 1) := by decide +kernel
theorem dX6_copyTo_90 : decode cX6_copyTo 90 = .ok (.iload_n 2, 1) := by decide +kernel
theorem dX6_copyTo_91 : decode cX6_copyTo 91 = .ok (.putfield 37, 3) := by decide +kernel
theorem dX6_copyTo_94 : decode cX6_copyTo 94 = .ok (.return_, 1) := by decide +kernel
theorem dX6_isDigit_0 : decode cX6_isDigit 0 = .ok (.iload_n 0, 1) := by decide +kernel
theorem dX6_isDigit_1 : decode cX6_isDigit 1 = .ok (.bipush 48, 2) := by decide +kernel
theorem dX6_isDigit_3 : decode cX6_isDigit 3 = .ok (.if_icmp .lt 13, 3) := by decide +kernel
theorem dX6_isDigit_6 : decode cX6_isDigit 6 = .ok (.iload_n 0, 1) := by decide +kernel
theorem dX6_isDigit_7 : decode cX6_isDigit 7 = .ok (.bipush 53, 2) := by decide +kernel
theorem dX6_isDigit_9 : decode cX6_isDigit 9 = .ok (.if_icmp .gt 7, 3) := by decide +kernel
theorem dX6_isDigit_12 : decode cX6_isDigit 12 = .ok (.iconst 1, 1) := by decide +kernel
theorem dX6_isDigit_13 : decode cX6_isDigit 13 = .ok (.goto 4, 3) := by decide +kernel
theorem dX6_isDigit_16 : decode cX6_isDigit 16 = .ok (.iconst 0, 1) := by decide +kernel
theorem dX6_isDigit_17 : decode cX6_isDigit 17 = .ok (.ireturn, 1) := by decide +kernel
theorem dX7_init_0 : decode cX7_init 0 = .ok (.aload_n 0, 1) := by decide +kernel
theorem dX7_init_1 : decode cX7_init 1 = .ok (.invokespecial 1, 3) := by decide +kernel
theorem dX7_init_4 : decode cX7_init 4 = .ok (.aload_n 0, 1) := by decide +kernel
theorem dX7_init_5 : decode cX7_init 5 = .ok (.new 7, 3) := by decide +kernel
theorem dX7_init_8 : decode cX7_init 8 = .ok (.dup, 1) := by decide +kernel
theorem dX7_init_9 : decode cX7_init 9 = .ok (.invokespecial 9, 3) := by decide +kernel
theorem dX7_init_12 : decode cX7_init 12 = .ok (.putfield 10, 3) := by decide +kernel
theorem dX7_init_15 : decode cX7_init 15 = .ok (.aload_n 0, 1) := by decide +kernel
theorem dX7_init_16 : decode cX7_init 16 = .ok (.new 16, 3) := by decide +kernel
theorem dX7_init_19 : decode cX7_init 19 = .ok (.dup, 1) := by decide +kernel
theorem dX7_init_20 : decode cX7_init 20 = .ok (.invokespecial 18, 3) := by decide +kernel
theorem dX7_init_23 : decode cX7_init 23 = .ok (.putfield 19, 3) := by decide +kernel
theorem dX7_init_26 : decode cX7_init 26 = .ok (.aload_n 0, 1) := by decide +kernel
theorem dX7_init_27 : decode cX7_init 27 = .ok (.new 23, 3) := by decide +kernel
theorem dX7_init_30 : decode cX7_init 30 = .ok (.dup, 1) := by decide +kernel
theorem dX7_init_31 : decode cX7_init 31 = .ok (.invokespecial 25, 3) := by decide +kernel
theorem dX7_init_34 : decode cX7_init 34 = .ok (.putfield 26, 3) := by decide +kernel
theorem dX7_init_37 : decode cX7_init 37 = .ok (.aload_n 0, 1) := by decide +kernel
theorem dX7_init_38 : decode cX7_init 38 = .ok (.new 30, 3) := by decide +kernel
theorem dX7_init_41 : decode cX7_init 41 = .ok (.dup, 1) := by decide +kernel
theorem dX7_init_42 : decode cX7_init 42 = .ok (.aload_n 0, 1) := by decide +kernel
theorem dX7_init_43 : decode cX7_init 43 = .ok (.getfield 19, 3) := by decide +kernel
theorem dX7_init_46 : decode cX7_init 46 = .ok (.invokespecial 32, 3) := by decide +kernel
theorem dX7_init_49 : decode cX7_init 49 = .ok (.putfield 35, 3) := by decide +kernel
theorem dX7_init_52 : decode cX7_init 52 = .ok (.aload_n 0, 1) := by decide +kernel
theorem dX7_init_53 : decode cX7_init 53 = .ok (.new 39, 3) := by decide +kernel
theorem dX7_init_56 : decode cX7_init 56 = .ok (.dup, 1) := by decide +kernel
theorem dX7_init_57 : decode cX7_init 57 = .ok (.aload_n 0, 1) := by decide +kernel
theorem dX7_init_58 : decode cX7_init 58 = .ok (.getfield 35, 3) := by decide +kernel
theorem dX7_init_61 : decode cX7_init 61 = .ok (.invokespecial 41, 3) := by decide +kernel
theorem dX7_init_64 : decode cX7_init 64 = .ok (.putfield 44, 3) := by decide +kernel
theorem dX7_init_67 : decode cX7_init 67 = .ok (.aload_n 0, 1) := by decide +kernel
theorem dX7_init_68 : decode cX7_init 68 = .ok (.new 48, 3) := by decide +kernel
theorem dX7_init_71 : decode cX7_init 71 = .ok (.dup, 1) := by decide +kernel
theorem dX7_init_72 : decode cX7_init 72 = .ok (.aload_n 0, 1) := by decide +kernel
theorem dX7_init_73 : decode cX7_init 73 = .ok (.getfield 35, 3) := by decide +kernel
theorem dX7_init_76 : decode cX7_init 76 = .ok (.invokespecial 50, 3) := by decide +kernel
theorem dX7_init_79 : decode cX7_init 79 = .ok (.putfield 51, 3) := by decide +kernel
theorem dX7_init_82 : decode cX7_init 82 = .ok (.aload_n 0, 1) := by decide +kernel
theorem dX7_init_83 : decode cX7_init 83 = .ok (.getfield 35, 3) := by decide +kernel
theorem dX7_init_86 : decode cX7_init 86 = .ok (.invokevirtual 55, 3) := by decide +kernel
theorem dX7_init_89 : decode cX7_init 89 = .ok (.return_, 1) := by decide +kernel
theorem dX7_appendCharacter_0 : decode cX7_appendCharacter 0 = .ok (.iload_n 1, 1) := by decide +kernel
theorem dX7_appendCharacter_1 : decode cX7_appendCharacter 1 = .ok (.ifCond .lt 10, 3) := by decide +kernel
theorem dX7_appendCharacter_4 : decode cX7_appendCharacter 4 = .ok (.iload_n 1, 1) := by decide +kernel
theorem dX7_appendCharacter_5 : decode cX7_appendCharacter 5 = .ok (.sipush 255, 3) := by decide +kernel
theorem dX7_appendCharacter_8 : decode cX7_appendCharacter 8 = .ok (.if_icmp .le 5, 3) := by decide +kernel
theorem dX7_appendCharacter_11 : decode cX7_appendCharacter 11 = .ok (.iconst (-1), 1) := by decide +kernel
theorem dX7_appendCharacter_12 : decode cX7_appendCharacter 12 = .ok (.ireturn, 1) := by decide +kernel
theorem dX7_appendCharacter_13 : decode cX7_appendCharacter 13 = .ok (.aload_n 0, 1) := by decide +kernel
theorem dX7_appendCharacter_14 : decode cX7_appendCharacter 14 = .ok (.getfield 10, 3) := by decide +kernel
theorem dX7_appendCharacter_17 : decode cX7_appendCharacter 17 = .ok (.iload_n 1, 1) := by decide +kernel
theorem dX7_appendCharacter_18 : decode cX7_appendCharacter 18 = .ok (.invokevirtual 58, 3) := by decide +kernel
theorem dX7_appendCharacter_21 : decode cX7_appendCharacter 21 = .ok (.ifCond .eq 13, 3) := by decide +kernel
theorem dX7_appendCharacter_24 : decode cX7_appendCharacter 24 = .ok (.aload_n 0, 1) := by decide +kernel
theorem dX7_appendCharacter_25 : decode cX7_appendCharacter 25 = .ok (.getfield 10, 3) := by decide +kernel
theorem dX7_appendCharacter_28 : decode cX7_appendCharacter 28 = .ok (.getfield 62, 3) := by decide +kernel
theorem dX7_appendCharacter_31 : decode cX7_appendCharacter 31 = .ok (.goto 5, 3) := by decide +kernel
theorem dX7_appendCharacter_34 : decode cX7_appendCharacter 34 = .ok (.bipush (-3), 2) := by decide +kernel
theorem dX7_appendCharacter_36 : decode cX7_appendCharacter 36 = .ok (.ireturn, 1) := by decide +kernel
theorem dX7_clearText_0 : decode cX7_clearText 0 = .ok (.aload_n 0, 1) := by decide +kernel
theorem dX7_clearText_1 : decode cX7_clearText 1 = .ok (.getfield 10, 3) := by decide +kernel
theorem dX7_clearText_4 : decode cX7_clearText 4 = .ok (.getfield 62, 3) := by decide +kernel
theorem dX7_clearText_7 : decode cX7_clearText 7 = .ok (.istore_n 1, 1) := by decide +kernel
theorem dX7_clearText_8 : decode cX7_clearText 8 = .ok (.aload_n 0, 1) := by decide +kernel
theorem dX7_clearText_9 : decode cX7_clearText 9 = .ok (.getfield 10, 3) := by decide +kernel
theorem dX7_clearText_12 : decode cX7_clearText 12 = .ok (.iconst 0, 1) := by decide +kernel
theorem dX7_clearText_13 : decode cX7_clearText 13 = .ok (.putfield 62, 3) := by decide +kernel
theorem dX7_clearText_16 : decode cX7_clearText 16 = .ok (.iload_n 1, 1) := by decide +kernel
theorem dX7_clearText_17 : decode cX7_clearText 17 = .ok (.ireturn, 1) := by decide +kernel
theorem dX7_loadDrawing_0 : decode cX7_loadDrawing 0 = .ok (.aload_n 0, 1) := by decide +kernel
theorem dX7_loadDrawing_1 : decode cX7_loadDrawing 1 = .ok (.getfield 10, 3) := by decide +kernel
theorem dX7_loadDrawing_4 : decode cX7_loadDrawing 4 = .ok (.invokevirtual 66, 3) := by decide +kernel
theorem dX7_loadDrawing_7 : decode cX7_loadDrawing 7 = .ok (.istore_n 1, 1) := by decide +kernel
theorem dX7_loadDrawing_8 : decode cX7_loadDrawing 8 = .ok (.iload_n 1, 1) := by decide +kernel
theorem dX7_loadDrawing_9 : decode cX7_loadDrawing 9 = .ok (.iconst (-1), 1) := by decide +kernel
theorem dX7_loadDrawing_10 : decode cX7_loadDrawing 10 = .ok (.if_icmp .eq 8, 3) := by decide +kernel
theorem dX7_loadDrawing_13 : decode cX7_loadDrawing 13 = .ok (.bipush (-10), 2) := by decide +kernel
theorem dX7_loadDrawing_15 : decode cX7_loadDrawing 15 = .ok (.iload_n 1, 1) := by decide +kernel
theorem dX7_loadDrawing_16 : decode cX7_loadDrawing 16 = .ok (.isub, 1) := by decide +kernel
theorem dX7_loadDrawing_17 : decode cX7_loadDrawing 17 = .ok (.ireturn, 1) := by decide +kernel
theorem dX7_loadDrawing_18 : decode cX7_loadDrawing 18 = .ok (.aload_n 0, 1) := by decide +kernel
theorem dX7_loadDrawing_19 : decode cX7_loadDrawing 19 = .ok (.getfield 26, 3) := by decide +kernel
theorem dX7_loadDrawing_22 : decode cX7_loadDrawing 22 = .ok (.aload_n 0, 1) := by decide +kernel
theorem dX7_loadDrawing_23 : decode cX7_loadDrawing 23 = .ok (.getfield 19, 3) := by decide +kernel
theorem dX7_loadDrawing_26 : decode cX7_loadDrawing 26 = .ok (.invokevirtual 70, 3) := by decide +kernel
theorem dX7_loadDrawing_29 : decode cX7_loadDrawing 29 = .ok (.aload_n 0, 1) := by decide +kernel
theorem dX7_loadDrawing_30 : decode cX7_loadDrawing 30 = .ok (.getfield 10, 3) := by decide +kernel
theorem dX7_loadDrawing_33 : decode cX7_loadDrawing 33 = .ok (.aload_n 0, 1) := by decide +kernel
theorem dX7_loadDrawing_34 : decode cX7_loadDrawing 34 = .ok (.getfield 19, 3) := by decide +kernel
theorem dX7_loadDrawing_37 : decode cX7_loadDrawing 37 = .ok (.invokevirtual 73, 3) := by decide +kernel
theorem dX7_loadDrawing_40 : decode cX7_loadDrawing 40 = .ok (.aload_n 0, 1) := by decide +kernel
theorem dX7_loadDrawing_41 : decode cX7_loadDrawing 41 = .ok (.getfield 10, 3) := by decide +kernel
theorem dX7_loadDrawing_44 : decode cX7_loadDrawing 44 = .ok (.iconst 0, 1) := by decide +kernel
theorem dX7_loadDrawing_45 : decode cX7_loadDrawing 45 = .ok (.putfield 62, 3) := by decide +kernel
theorem dX7_loadDrawing_48 : decode cX7_loadDrawing 48 = .ok (.aload_n 0, 1) := by decide +kernel
theorem dX7_loadDrawing_49 : decode cX7_loadDrawing 49 = .ok (.getfield 19, 3) := by decide +kernel
theorem dX7_loadDrawing_52 : decode cX7_loadDrawing 52 = .ok (.lconst 0, 1) := by decide +kernel
theorem dX7_loadDrawing_53 : decode cX7_loadDrawing 53 = .ok (.putfield 76, 3) := by decide +kernel
theorem dX7_loadDrawing_56 : decode cX7_loadDrawing 56 = .ok (.aload_n 0, 1) := by decide +kernel
theorem dX7_loadDrawing_57 : decode cX7_loadDrawing 57 = .ok (.getfield 19, 3) := by decide +kernel
theorem dX7_loadDrawing_60 : decode cX7_loadDrawing 60 = .ok (.lconst 0, 1) := by decide +kernel
theorem dX7_loadDrawing_61 : decode cX7_loadDrawing 61 = .ok (.putfield 80, 3) := by decide +kernel
theorem dX7_loadDrawing_64 : decode cX7_loadDrawing 64 = .ok (.aload_n 0, 1) := by decide +kernel
theorem dX7_loadDrawing_65 : decode cX7_loadDrawing 65 = .ok (.invokevirtual 83, 3) := by decide +kernel
theorem dX7_loadDrawing_68 : decode cX7_loadDrawing 68 = .ok (.aload_n 0, 1) := by decide +kernel
theorem dX7_loadDrawing_69 : decode cX7_loadDrawing 69 = .ok (.getfield 35, 3) := by decide +kernel
theorem dX7_loadDrawing_72 : decode cX7_loadDrawing 72 = .ok (.getfield 86, 3) := by decide +kernel
theorem dX7_loadDrawing_75 : decode cX7_loadDrawing 75 = .ok (.ireturn, 1) := by decide +kernel
theorem dX7_setColour_0 : decode cX7_setColour 0 = .ok (.aload_n 0, 1) := by decide +kernel
theorem dX7_setColour_1 : decode cX7_setColour 1 = .ok (.getfield 19, 3) := by decide +kernel
theorem dX7_setColour_4 : decode cX7_setColour 4 = .ok (.iload_n 1, 1) := by decide +kernel
theorem dX7_setColour_5 : decode cX7_setColour 5 = .ok (.iload_n 2, 1) := by decide +kernel
theorem dX7_setColour_6 : decode cX7_setColour 6 = .ok (.invokevirtual 89, 3) := by decide +kernel
theorem dX7_setColour_9 : decode cX7_setColour 9 = .ok (.ifCond .eq 12, 3) := by decide +kernel
theorem dX7_setColour_12 : decode cX7_setColour 12 = .ok (.iload_n 3, 1) := by decide +kernel
theorem dX7_setColour_13 : decode cX7_setColour 13 = .ok (.ifCond .lt 8, 3) := by decide +kernel
theorem dX7_setColour_16 : decode cX7_setColour 16 = .ok (.iload_n 3, 1) := by decide +kernel
theorem dX7_setColour_17 : decode cX7_setColour 17 = .ok (.iconst 5, 1) := by decide +kernel
theorem dX7_setColour_18 : decode cX7_setColour 18 = .ok (.if_icmp .le 5, 3) := by decide +kernel
theorem dX7_setColour_21 : decode cX7_setColour 21 = .ok (.iconst (-1), 1) := by decide +kernel
theorem dX7_setColour_22 : decode cX7_setColour 22 = .ok (.ireturn, 1) := by decide +kernel
theorem dX7_setColour_23 : decode cX7_setColour 23 = .ok (.iload_n 1, 1) := by decide +kernel
theorem dX7_setColour_24 : decode cX7_setColour 24 = .ok (.iload_n 2, 1) := by decide +kernel
theorem dX7_setColour_25 : decode cX7_setColour 25 = .ok (.invokestatic 93, 3) := by decide +kernel
theorem dX7_setColour_28 : decode cX7_setColour 28 = .ok (.istore 4, 2) := by decide +kernel
theorem dX7_setColour_30 : decode cX7_setColour 30 = .ok (.aload_n 0, 1) := by decide +kernel
theorem dX7_setColour_31 : decode cX7_setColour 31 = .ok (.getfield 19, 3) := by decide +kernel
theorem dX7_setColour_34 : decode cX7_setColour 34 = .ok (.getfield 99, 3) := by decide +kernel
theorem dX7_setColour_37 : decode cX7_setColour 37 = .ok (.iload 4, 2) := by decide +kernel
theorem dX7_setColour_39 : decode cX7_setColour 39 = .ok (.iaload, 1) := by decide +kernel
theorem dX7_setColour_40 : decode cX7_setColour 40 = .ok (.istore 5, 2) := by decide +kernel
theorem dX7_setColour_42 : decode cX7_setColour 42 = .ok (.iload 5, 2) := by decide +kernel
theorem dX7_setColour_44 : decode cX7_setColour 44 = .ok (.iload_n 3, 1) := by decide +kernel
theorem dX7_setColour_45 : decode cX7_setColour 45 = .ok (.if_icmp .ne 6, 3) := by decide +kernel
theorem dX7_setColour_48 : decode cX7_setColour 48 = .ok (.bipush (-2), 2) := by decide +kernel
theorem dX7_setColour_50 : decode cX7_setColour 50 = .ok (.ireturn, 1) := by decide +kernel
theorem dX7_setColour_51 : decode cX7_setColour 51 = .ok (.aload_n 0, 1) := by decide +kernel
theorem dX7_setColour_52 : decode cX7_setColour 52 = .ok (.getfield 26, 3) := by decide +kernel
theorem dX7_setColour_55 : decode cX7_setColour 55 = .ok (.aload_n 0, 1) := by decide +kernel
theorem dX7_setColour_56 : decode cX7_setColour 56 = .ok (.getfield 19, 3) := by decide +kernel
theorem dX7_setColour_59 : decode cX7_setColour 59 = .ok (.invokevirtual 70, 3) := by decide +kernel
theorem dX7_setColour_62 : decode cX7_setColour 62 = .ok (.aload_n 0, 1) := by decide +kernel
theorem dX7_setColour_63 : decode cX7_setColour 63 = .ok (.getfield 19, 3) := by decide +kernel
theorem dX7_setColour_66 : decode cX7_setColour 66 = .ok (.getfield 99, 3) := by decide +kernel
theorem dX7_setColour_69 : decode cX7_setColour 69 = .ok (.iload 4, 2) := by decide +kernel
theorem dX7_setColour_71 : decode cX7_setColour 71 = .ok (.iload_n 3, 1) := by decide +kernel
theorem dX7_setColour_72 : decode cX7_setColour 72 = .ok (.iastore, 1) := by decide +kernel
theorem dX7_setColour_73 : decode cX7_setColour 73 = .ok (.aload_n 0, 1) := by decide +kernel
theorem dX7_setColour_74 : decode cX7_setColour 74 = .ok (.invokevirtual 83, 3) := by decide +kernel
theorem dX7_setColour_77 : decode cX7_setColour 77 = .ok (.iload 5, 2) := by decide +kernel
theorem dX7_setColour_79 : decode cX7_setColour 79 = .ok (.ireturn, 1) := by decide +kernel
theorem dX7_rows_0 : decode cX7_rows 0 = .ok (.aload_n 0, 1) := by decide +kernel
theorem dX7_rows_1 : decode cX7_rows 1 = .ok (.getfield 19, 3) := by decide +kernel
theorem dX7_rows_4 : decode cX7_rows 4 = .ok (.getfield 103, 3) := by decide +kernel
theorem dX7_rows_7 : decode cX7_rows 7 = .ok (.ireturn, 1) := by decide +kernel
theorem dX7_columns_0 : decode cX7_columns 0 = .ok (.aload_n 0, 1) := by decide +kernel
theorem dX7_columns_1 : decode cX7_columns 1 = .ok (.getfield 19, 3) := by decide +kernel
theorem dX7_columns_4 : decode cX7_columns 4 = .ok (.getfield 106, 3) := by decide +kernel
theorem dX7_columns_7 : decode cX7_columns 7 = .ok (.ireturn, 1) := by decide +kernel
theorem dX7_colourAt_0 : decode cX7_colourAt 0 = .ok (.aload_n 0, 1) := by decide +kernel
theorem dX7_colourAt_1 : decode cX7_colourAt 1 = .ok (.getfield 19, 3) := by decide +kernel
theorem dX7_colourAt_4 : decode cX7_colourAt 4 = .ok (.iload_n 1, 1) := by decide +kernel
theorem dX7_colourAt_5 : decode cX7_colourAt 5 = .ok (.iload_n 2, 1) := by decide +kernel
theorem dX7_colourAt_6 : decode cX7_colourAt 6 = .ok (.invokevirtual 89, 3) := by decide +kernel
theorem dX7_colourAt_9 : decode cX7_colourAt 9 = .ok (.ifCond .ne 5, 3) := by decide +kernel
theorem dX7_colourAt_12 : decode cX7_colourAt 12 = .ok (.iconst (-1), 1) := by decide +kernel
theorem dX7_colourAt_13 : decode cX7_colourAt 13 = .ok (.ireturn, 1) := by decide +kernel
theorem dX7_colourAt_14 : decode cX7_colourAt 14 = .ok (.aload_n 0, 1) := by decide +kernel
theorem dX7_colourAt_15 : decode cX7_colourAt 15 = .ok (.getfield 19, 3) := by decide +kernel
theorem dX7_colourAt_18 : decode cX7_colourAt 18 = .ok (.getfield 99, 3) := by decide +kernel
theorem dX7_colourAt_21 : decode cX7_colourAt 21 = .ok (.iload_n 1, 1) := by decide +kernel
theorem dX7_colourAt_22 : decode cX7_colourAt 22 = .ok (.iload_n 2, 1) := by decide +kernel
theorem dX7_colourAt_23 : decode cX7_colourAt 23 = .ok (.invokestatic 93, 3) := by decide +kernel
theorem dX7_colourAt_26 : decode cX7_colourAt 26 = .ok (.iaload, 1) := by decide +kernel
theorem dX7_colourAt_27 : decode cX7_colourAt 27 = .ok (.ireturn, 1) := by decide +kernel
theorem dX7_addCut_0 : decode cX7_addCut 0 = .ok (.aload_n 0, 1) := by decide +kernel
theorem dX7_addCut_1 : decode cX7_addCut 1 = .ok (.getfield 19, 3) := by decide +kernel
theorem dX7_addCut_4 : decode cX7_addCut 4 = .ok (.iload_n 1, 1) := by decide +kernel
theorem dX7_addCut_5 : decode cX7_addCut 5 = .ok (.iload_n 2, 1) := by decide +kernel
theorem dX7_addCut_6 : decode cX7_addCut 6 = .ok (.iload_n 3, 1) := by decide +kernel
theorem dX7_addCut_7 : decode cX7_addCut 7 = .ok (.invokevirtual 109, 3) := by decide +kernel
theorem dX7_addCut_10 : decode cX7_addCut 10 = .ok (.ifCond .ne 5, 3) := by decide +kernel
theorem dX7_addCut_13 : decode cX7_addCut 13 = .ok (.iconst (-1), 1) := by decide +kernel
theorem dX7_addCut_14 : decode cX7_addCut 14 = .ok (.ireturn, 1) := by decide +kernel
theorem dX7_addCut_15 : decode cX7_addCut 15 = .ok (.aload_n 0, 1) := by decide +kernel
theorem dX7_addCut_16 : decode cX7_addCut 16 = .ok (.getfield 19, 3) := by decide +kernel
theorem dX7_addCut_19 : decode cX7_addCut 19 = .ok (.iload_n 1, 1) := by decide +kernel
theorem dX7_addCut_20 : decode cX7_addCut 20 = .ok (.iload_n 2, 1) := by decide +kernel
theorem dX7_addCut_21 : decode cX7_addCut 21 = .ok (.iload_n 3, 1) := by decide +kernel
theorem dX7_addCut_22 : decode cX7_addCut 22 = .ok (.invokevirtual 113, 3) := by decide +kernel
theorem dX7_addCut_25 : decode cX7_addCut 25 = .ok (.ifCond .eq 6, 3) := by decide +kernel
theorem dX7_addCut_28 : decode cX7_addCut 28 = .ok (.bipush (-2), 2) := by decide +kernel
theorem dX7_addCut_30 : decode cX7_addCut 30 = .ok (.ireturn, 1) := by decide +kernel
theorem dX7_addCut_31 : decode cX7_addCut 31 = .ok (.aload_n 0, 1) := by decide +kernel
theorem dX7_addCut_32 : decode cX7_addCut 32 = .ok (.iload_n 1, 1) := by decide +kernel
theorem dX7_addCut_33 : decode cX7_addCut 33 = .ok (.iload_n 2, 1) := by decide +kernel
theorem dX7_addCut_34 : decode cX7_addCut 34 = .ok (.iload_n 3, 1) := by decide +kernel
theorem dX7_addCut_35 : decode cX7_addCut 35 = .ok (.invokevirtual 116, 3) := by decide +kernel
theorem dX7_addCut_38 : decode cX7_addCut 38 = .ok (.ireturn, 1) := by decide +kernel
theorem dX7_removeCut_0 : decode cX7_removeCut 0 = .ok (.aload_n 0, 1) := by decide +kernel
theorem dX7_removeCut_1 : decode cX7_removeCut 1 = .ok (.getfield 19, 3) := by decide +kernel
theorem dX7_removeCut_4 : decode cX7_removeCut 4 = .ok (.iload_n 1, 1) := by decide +kernel
theorem dX7_removeCut_5 : decode cX7_removeCut 5 = .ok (.iload_n 2, 1) := by decide +kernel
theorem dX7_removeCut_6 : decode cX7_removeCut 6 = .ok (.iload_n 3, 1) := by decide +kernel
theorem dX7_removeCut_7 : decode cX7_removeCut 7 = .ok (.invokevirtual 109, 3) := by decide +kernel
theorem dX7_removeCut_10 : decode cX7_removeCut 10 = .ok (.ifCond .ne 5, 3) := by decide +kernel
theorem dX7_removeCut_13 : decode cX7_removeCut 13 = .ok (.iconst (-1), 1) := by decide +kernel
theorem dX7_removeCut_14 : decode cX7_removeCut 14 = .ok (.ireturn, 1) := by decide +kernel
theorem dX7_removeCut_15 : decode cX7_removeCut 15 = .ok (.aload_n 0, 1) := by decide +kernel
theorem dX7_removeCut_16 : decode cX7_removeCut 16 = .ok (.getfield 19, 3) := by decide +kernel
theorem dX7_removeCut_19 : decode cX7_removeCut 19 = .ok (.iload_n 1, 1) := by decide +kernel
theorem dX7_removeCut_20 : decode cX7_removeCut 20 = .ok (.iload_n 2, 1) := by decide +kernel
theorem dX7_removeCut_21 : decode cX7_removeCut 21 = .ok (.iload_n 3, 1) := by decide +kernel
theorem dX7_removeCut_22 : decode cX7_removeCut 22 = .ok (.invokevirtual 113, 3) := by decide +kernel
theorem dX7_removeCut_25 : decode cX7_removeCut 25 = .ok (.ifCond .ne 6, 3) := by decide +kernel
theorem dX7_removeCut_28 : decode cX7_removeCut 28 = .ok (.bipush (-2), 2) := by decide +kernel
theorem dX7_removeCut_30 : decode cX7_removeCut 30 = .ok (.ireturn, 1) := by decide +kernel
theorem dX7_removeCut_31 : decode cX7_removeCut 31 = .ok (.aload_n 0, 1) := by decide +kernel
theorem dX7_removeCut_32 : decode cX7_removeCut 32 = .ok (.iload_n 1, 1) := by decide +kernel
theorem dX7_removeCut_33 : decode cX7_removeCut 33 = .ok (.iload_n 2, 1) := by decide +kernel
theorem dX7_removeCut_34 : decode cX7_removeCut 34 = .ok (.iload_n 3, 1) := by decide +kernel
theorem dX7_removeCut_35 : decode cX7_removeCut 35 = .ok (.invokevirtual 116, 3) := by decide +kernel
theorem dX7_removeCut_38 : decode cX7_removeCut 38 = .ok (.ireturn, 1) := by decide +kernel
theorem dX7_looseCuts_0 : decode cX7_looseCuts 0 = .ok (.aload_n 0, 1) := by decide +kernel
theorem dX7_looseCuts_1 : decode cX7_looseCuts 1 = .ok (.getfield 35, 3) := by decide +kernel
theorem dX7_looseCuts_4 : decode cX7_looseCuts 4 = .ok (.invokevirtual 120, 3) := by decide +kernel
theorem dX7_looseCuts_7 : decode cX7_looseCuts 7 = .ok (.invokestatic 124, 3) := by decide +kernel
theorem dX7_looseCuts_10 : decode cX7_looseCuts 10 = .ok (.aload_n 0, 1) := by decide +kernel
theorem dX7_looseCuts_11 : decode cX7_looseCuts 11 = .ok (.getfield 35, 3) := by decide +kernel
theorem dX7_looseCuts_14 : decode cX7_looseCuts 14 = .ok (.invokevirtual 130, 3) := by decide +kernel
theorem dX7_looseCuts_17 : decode cX7_looseCuts 17 = .ok (.invokestatic 124, 3) := by decide +kernel
theorem dX7_looseCuts_20 : decode cX7_looseCuts 20 = .ok (.iadd, 1) := by decide +kernel
theorem dX7_looseCuts_21 : decode cX7_looseCuts 21 = .ok (.ireturn, 1) := by decide +kernel
theorem dX7_removeLooseCuts_0 : decode cX7_removeLooseCuts 0 = .ok (.aload_n 0, 1) := by decide +kernel
theorem dX7_removeLooseCuts_1 : decode cX7_removeLooseCuts 1 = .ok (.getfield 35, 3) := by decide +kernel
theorem dX7_removeLooseCuts_4 : decode cX7_removeLooseCuts 4 = .ok (.invokevirtual 120, 3) := by decide +kernel
theorem dX7_removeLooseCuts_7 : decode cX7_removeLooseCuts 7 = .ok (.lstore_n 1, 1) := by decide +kernel
theorem dX7_removeLooseCuts_8 : decode cX7_removeLooseCuts 8 = .ok (.aload_n 0, 1) := by decide +kernel
theorem dX7_removeLooseCuts_9 : decode cX7_removeLooseCuts 9 = .ok (.getfield 35, 3) := by decide +kernel
theorem dX7_removeLooseCuts_12 : decode cX7_removeLooseCuts 12 = .ok (.invokevirtual 130, 3) := by decide +kernel
theorem dX7_removeLooseCuts_15 : decode cX7_removeLooseCuts 15 = .ok (.lstore_n 3, 1) := by decide +kernel
theorem dX7_removeLooseCuts_16 : decode cX7_removeLooseCuts 16 = .ok (.lload_n 1, 1) := by decide +kernel
theorem dX7_removeLooseCuts_17 : decode cX7_removeLooseCuts 17 = .ok (.lconst 0, 1) := by decide +kernel
theorem dX7_removeLooseCuts_18 : decode cX7_removeLooseCuts 18 = .ok (.lcmp, 1) := by decide +kernel
theorem dX7_removeLooseCuts_19 : decode cX7_removeLooseCuts 19 = .ok (.ifCond .ne 12, 3) := by decide +kernel
theorem dX7_removeLooseCuts_22 : decode cX7_removeLooseCuts 22 = .ok (.lload_n 3, 1) := by decide +kernel
theorem dX7_removeLooseCuts_23 : decode cX7_removeLooseCuts 23 = .ok (.lconst 0, 1) := by decide +kernel
theorem dX7_removeLooseCuts_24 : decode cX7_removeLooseCuts 24 = .ok (.lcmp, 1) := by decide +kernel
theorem dX7_removeLooseCuts_25 : decode cX7_removeLooseCuts 25 = .ok (.ifCond .ne 6, 3) := by decide +kernel
theorem dX7_removeLooseCuts_28 : decode cX7_removeLooseCuts 28 = .ok (.bipush (-2), 2) := by decide +kernel
theorem dX7_removeLooseCuts_30 : decode cX7_removeLooseCuts 30 = .ok (.ireturn, 1) := by decide +kernel
theorem dX7_removeLooseCuts_31 : decode cX7_removeLooseCuts 31 = .ok (.aload_n 0, 1) := by decide +kernel
theorem dX7_removeLooseCuts_32 : decode cX7_removeLooseCuts 32 = .ok (.getfield 26, 3) := by decide +kernel
theorem dX7_removeLooseCuts_35 : decode cX7_removeLooseCuts 35 = .ok (.aload_n 0, 1) := by decide +kernel
theorem dX7_removeLooseCuts_36 : decode cX7_removeLooseCuts 36 = .ok (.getfield 19, 3) := by decide +kernel
theorem dX7_removeLooseCuts_39 : decode cX7_removeLooseCuts 39 = .ok (.invokevirtual 70, 3) := by decide +kernel
theorem dX7_removeLooseCuts_42 : decode cX7_removeLooseCuts 42 = .ok (.aload_n 0, 1) := by decide +kernel
theorem dX7_removeLooseCuts_43 : decode cX7_removeLooseCuts 43 = .ok (.getfield 19, 3) := by decide +kernel
theorem dX7_removeLooseCuts_46 : decode cX7_removeLooseCuts 46 = .ok (.dup, 1) := by decide +kernel
theorem dX7_removeLooseCuts_47 : decode cX7_removeLooseCuts 47 = .ok (.getfield 76, 3) := by decide +kernel
theorem dX7_removeLooseCuts_50 : decode cX7_removeLooseCuts 50 = .ok (.lload_n 1, 1) := by decide +kernel
theorem dX7_removeLooseCuts_51 : decode cX7_removeLooseCuts 51 = .ok (.ldc2_w 133, 3) := by decide +kernel
theorem dX7_removeLooseCuts_54 : decode cX7_removeLooseCuts 54 = .ok (.lxor, 1) := by decide +kernel
theorem dX7_removeLooseCuts_55 : decode cX7_removeLooseCuts 55 = .ok (.land, 1) := by decide +kernel
theorem dX7_removeLooseCuts_56 : decode cX7_removeLooseCuts 56 = .ok (.putfield 76, 3) := by decide +kernel
theorem dX7_removeLooseCuts_59 : decode cX7_removeLooseCuts 59 = .ok (.aload_n 0, 1) := by decide +kernel
theorem dX7_removeLooseCuts_60 : decode cX7_removeLooseCuts 60 = .ok (.getfield 19, 3) := by decide +kernel
theorem dX7_removeLooseCuts_63 : decode cX7_removeLooseCuts 63 = .ok (.dup, 1) := by decide +kernel
theorem dX7_removeLooseCuts_64 : decode cX7_removeLooseCuts 64 = .ok (.getfield 80, 3) := by decide +kernel
theorem dX7_removeLooseCuts_67 : decode cX7_removeLooseCuts 67 = .ok (.lload_n 3, 1) := by decide +kernel
theorem dX7_removeLooseCuts_68 : decode cX7_removeLooseCuts 68 = .ok (.ldc2_w 133, 3) := by decide +kernel
theorem dX7_removeLooseCuts_71 : decode cX7_removeLooseCuts 71 = .ok (.lxor, 1) := by decide +kernel
theorem dX7_removeLooseCuts_72 : decode cX7_removeLooseCuts 72 = .ok (.land, 1) := by decide +kernel
theorem dX7_removeLooseCuts_73 : decode cX7_removeLooseCuts 73 = .ok (.putfield 80, 3) := by decide +kernel
theorem dX7_removeLooseCuts_76 : decode cX7_removeLooseCuts 76 = .ok (.aload_n 0, 1) := by decide +kernel
theorem dX7_removeLooseCuts_77 : decode cX7_removeLooseCuts 77 = .ok (.invokevirtual 83, 3) := by decide +kernel
theorem dX7_removeLooseCuts_80 : decode cX7_removeLooseCuts 80 = .ok (.lload_n 1, 1) := by decide +kernel
theorem dX7_removeLooseCuts_81 : decode cX7_removeLooseCuts 81 = .ok (.invokestatic 124, 3) := by decide +kernel
theorem dX7_removeLooseCuts_84 : decode cX7_removeLooseCuts 84 = .ok (.lload_n 3, 1) := by decide +kernel
theorem dX7_removeLooseCuts_85 : decode cX7_removeLooseCuts 85 = .ok (.invokestatic 124, 3) := by decide +kernel
theorem dX7_removeLooseCuts_88 : decode cX7_removeLooseCuts 88 = .ok (.iadd, 1) := by decide +kernel
theorem dX7_removeLooseCuts_89 : decode cX7_removeLooseCuts 89 = .ok (.ireturn, 1) := by decide +kernel
theorem dX7_paneCount_0 : decode cX7_paneCount 0 = .ok (.aload_n 0, 1) := by decide +kernel
theorem dX7_paneCount_1 : decode cX7_paneCount 1 = .ok (.getfield 35, 3) := by decide +kernel
theorem dX7_paneCount_4 : decode cX7_paneCount 4 = .ok (.getfield 86, 3) := by decide +kernel
theorem dX7_paneCount_7 : decode cX7_paneCount 7 = .ok (.ireturn, 1) := by decide +kernel
theorem dX7_paneAt_0 : decode cX7_paneAt 0 = .ok (.aload_n 0, 1) := by decide +kernel
theorem dX7_paneAt_1 : decode cX7_paneAt 1 = .ok (.getfield 19, 3) := by decide +kernel
theorem dX7_paneAt_4 : decode cX7_paneAt 4 = .ok (.iload_n 1, 1) := by decide +kernel
theorem dX7_paneAt_5 : decode cX7_paneAt 5 = .ok (.iload_n 2, 1) := by decide +kernel
theorem dX7_paneAt_6 : decode cX7_paneAt 6 = .ok (.invokevirtual 89, 3) := by decide +kernel
theorem dX7_paneAt_9 : decode cX7_paneAt 9 = .ok (.ifCond .ne 5, 3) := by decide +kernel
theorem dX7_paneAt_12 : decode cX7_paneAt 12 = .ok (.iconst (-1), 1) := by decide +kernel
theorem dX7_paneAt_13 : decode cX7_paneAt 13 = .ok (.ireturn, 1) := by decide +kernel
theorem dX7_paneAt_14 : decode cX7_paneAt 14 = .ok (.aload_n 0, 1) := by decide +kernel
theorem dX7_paneAt_15 : decode cX7_paneAt 15 = .ok (.getfield 35, 3) := by decide +kernel
theorem dX7_paneAt_18 : decode cX7_paneAt 18 = .ok (.iload_n 1, 1) := by decide +kernel
theorem dX7_paneAt_19 : decode cX7_paneAt 19 = .ok (.iload_n 2, 1) := by decide +kernel
theorem dX7_paneAt_20 : decode cX7_paneAt 20 = .ok (.invokestatic 135, 3) := by decide +kernel
theorem dX7_paneAt_23 : decode cX7_paneAt 23 = .ok (.invokevirtual 139, 3) := by decide +kernel
theorem dX7_paneAt_26 : decode cX7_paneAt 26 = .ok (.ireturn, 1) := by decide +kernel
theorem dX7_paneSize_0 : decode cX7_paneSize 0 = .ok (.aload_n 0, 1) := by decide +kernel
theorem dX7_paneSize_1 : decode cX7_paneSize 1 = .ok (.getfield 35, 3) := by decide +kernel
theorem dX7_paneSize_4 : decode cX7_paneSize 4 = .ok (.iload_n 1, 1) := by decide +kernel
theorem dX7_paneSize_5 : decode cX7_paneSize 5 = .ok (.invokevirtual 142, 3) := by decide +kernel
theorem dX7_paneSize_8 : decode cX7_paneSize 8 = .ok (.ifCond .ne 5, 3) := by decide +kernel
theorem dX7_paneSize_11 : decode cX7_paneSize 11 = .ok (.iconst (-1), 1) := by decide +kernel
theorem dX7_paneSize_12 : decode cX7_paneSize 12 = .ok (.ireturn, 1) := by decide +kernel
theorem dX7_paneSize_13 : decode cX7_paneSize 13 = .ok (.aload_n 0, 1) := by decide +kernel
theorem dX7_paneSize_14 : decode cX7_paneSize 14 = .ok (.getfield 35, 3) := by decide +kernel
theorem dX7_paneSize_17 : decode cX7_paneSize 17 = .ok (.getfield 145, 3) := by decide +kernel
theorem dX7_paneSize_20 : decode cX7_paneSize 20 = .ok (.iload_n 1, 1) := by decide +kernel
theorem dX7_paneSize_21 : decode cX7_paneSize 21 = .ok (.laload, 1) := by decide +kernel
theorem dX7_paneSize_22 : decode cX7_paneSize 22 = .ok (.invokestatic 124, 3) := by decide +kernel
theorem dX7_paneSize_25 : decode cX7_paneSize 25 = .ok (.ireturn, 1) := by decide +kernel
theorem dX7_innerCorners_0 : decode cX7_innerCorners 0 = .ok (.aload_n 0, 1) := by decide +kernel
theorem dX7_innerCorners_1 : decode cX7_innerCorners 1 = .ok (.getfield 35, 3) := by decide +kernel
theorem dX7_innerCorners_4 : decode cX7_innerCorners 4 = .ok (.iload_n 1, 1) := by decide +kernel
theorem dX7_innerCorners_5 : decode cX7_innerCorners 5 = .ok (.invokevirtual 142, 3) := by decide +kernel
theorem dX7_innerCorners_8 : decode cX7_innerCorners 8 = .ok (.ifCond .ne 5, 3) := by decide +kernel
theorem dX7_innerCorners_11 : decode cX7_innerCorners 11 = .ok (.iconst (-1), 1) := by decide +kernel
theorem dX7_innerCorners_12 : decode cX7_innerCorners 12 = .ok (.ireturn, 1) := by decide +kernel
theorem dX7_innerCorners_13 : decode cX7_innerCorners 13 = .ok (.aload_n 0, 1) := by decide +kernel
theorem dX7_innerCorners_14 : decode cX7_innerCorners 14 = .ok (.getfield 35, 3) := by decide +kernel
theorem dX7_innerCorners_17 : decode cX7_innerCorners 17 = .ok (.getfield 145, 3) := by decide +kernel
theorem dX7_innerCorners_20 : decode cX7_innerCorners 20 = .ok (.iload_n 1, 1) := by decide +kernel
theorem dX7_innerCorners_21 : decode cX7_innerCorners 21 = .ok (.laload, 1) := by decide +kernel
theorem dX7_innerCorners_22 : decode cX7_innerCorners 22 = .ok (.invokestatic 149, 3) := by decide +kernel
theorem dX7_innerCorners_25 : decode cX7_innerCorners 25 = .ok (.ireturn, 1) := by decide +kernel
theorem dX7_holes_0 : decode cX7_holes 0 = .ok (.aload_n 0, 1) := by decide +kernel
theorem dX7_holes_1 : decode cX7_holes 1 = .ok (.getfield 35, 3) := by decide +kernel
theorem dX7_holes_4 : decode cX7_holes 4 = .ok (.iload_n 1, 1) := by decide +kernel
theorem dX7_holes_5 : decode cX7_holes 5 = .ok (.invokevirtual 142, 3) := by decide +kernel
theorem dX7_holes_8 : decode cX7_holes 8 = .ok (.ifCond .ne 5, 3) := by decide +kernel
theorem dX7_holes_11 : decode cX7_holes 11 = .ok (.iconst (-1), 1) := by decide +kernel
theorem dX7_holes_12 : decode cX7_holes 12 = .ok (.ireturn, 1) := by decide +kernel
theorem dX7_holes_13 : decode cX7_holes 13 = .ok (.aload_n 0, 1) := by decide +kernel
theorem dX7_holes_14 : decode cX7_holes 14 = .ok (.getfield 35, 3) := by decide +kernel
theorem dX7_holes_17 : decode cX7_holes 17 = .ok (.getfield 145, 3) := by decide +kernel
theorem dX7_holes_20 : decode cX7_holes 20 = .ok (.iload_n 1, 1) := by decide +kernel
theorem dX7_holes_21 : decode cX7_holes 21 = .ok (.laload, 1) := by decide +kernel
theorem dX7_holes_22 : decode cX7_holes 22 = .ok (.aload_n 0, 1) := by decide +kernel
theorem dX7_holes_23 : decode cX7_holes 23 = .ok (.getfield 35, 3) := by decide +kernel
theorem dX7_holes_26 : decode cX7_holes 26 = .ok (.getfield 152, 3) := by decide +kernel
theorem dX7_holes_29 : decode cX7_holes 29 = .ok (.invokestatic 155, 3) := by decide +kernel
theorem dX7_holes_32 : decode cX7_holes 32 = .ok (.ireturn, 1) := by decide +kernel
theorem dX7_canBeCut_0 : decode cX7_canBeCut 0 = .ok (.aload_n 0, 1) := by decide +kernel
theorem dX7_canBeCut_1 : decode cX7_canBeCut 1 = .ok (.getfield 35, 3) := by decide +kernel
theorem dX7_canBeCut_4 : decode cX7_canBeCut 4 = .ok (.iload_n 1, 1) := by decide +kernel
theorem dX7_canBeCut_5 : decode cX7_canBeCut 5 = .ok (.invokevirtual 142, 3) := by decide +kernel
theorem dX7_canBeCut_8 : decode cX7_canBeCut 8 = .ok (.ifCond .ne 5, 3) := by decide +kernel
theorem dX7_canBeCut_11 : decode cX7_canBeCut 11 = .ok (.iconst (-1), 1) := by decide +kernel
theorem dX7_canBeCut_12 : decode cX7_canBeCut 12 = .ok (.ireturn, 1) := by decide +kernel
theorem dX7_canBeCut_13 : decode cX7_canBeCut 13 = .ok (.aload_n 0, 1) := by decide +kernel
theorem dX7_canBeCut_14 : decode cX7_canBeCut 14 = .ok (.getfield 35, 3) := by decide +kernel
theorem dX7_canBeCut_17 : decode cX7_canBeCut 17 = .ok (.aload_n 0, 1) := by decide +kernel
theorem dX7_canBeCut_18 : decode cX7_canBeCut 18 = .ok (.getfield 35, 3) := by decide +kernel
theorem dX7_canBeCut_21 : decode cX7_canBeCut 21 = .ok (.getfield 145, 3) := by decide +kernel
theorem dX7_canBeCut_24 : decode cX7_canBeCut 24 = .ok (.iload_n 1, 1) := by decide +kernel
theorem dX7_canBeCut_25 : decode cX7_canBeCut 25 = .ok (.laload, 1) := by decide +kernel
theorem dX7_canBeCut_26 : decode cX7_canBeCut 26 = .ok (.invokevirtual 159, 3) := by decide +kernel
theorem dX7_canBeCut_29 : decode cX7_canBeCut 29 = .ok (.ifCond .eq 7, 3) := by decide +kernel
theorem dX7_canBeCut_32 : decode cX7_canBeCut 32 = .ok (.iconst 1, 1) := by decide +kernel
theorem dX7_canBeCut_33 : decode cX7_canBeCut 33 = .ok (.goto 4, 3) := by decide +kernel
theorem dX7_canBeCut_36 : decode cX7_canBeCut 36 = .ok (.iconst 0, 1) := by decide +kernel
theorem dX7_canBeCut_37 : decode cX7_canBeCut 37 = .ok (.ireturn, 1) := by decide +kernel
theorem dX7_cuttableCount_0 : decode cX7_cuttableCount 0 = .ok (.iconst 0, 1) := by decide +kernel
theorem dX7_cuttableCount_1 : decode cX7_cuttableCount 1 = .ok (.istore_n 1, 1) := by decide +kernel
theorem dX7_cuttableCount_2 : decode cX7_cuttableCount 2 = .ok (.iconst 0, 1) := by decide +kernel
theorem dX7_cuttableCount_3 : decode cX7_cuttableCount 3 = .ok (.istore_n 2, 1) := by decide +kernel
theorem dX7_cuttableCount_4 : decode cX7_cuttableCount 4 = .ok (.iload_n 2, 1) := by decide +kernel
theorem dX7_cuttableCount_5 : decode cX7_cuttableCount 5 = .ok (.aload_n 0, 1) := by decide +kernel
theorem dX7_cuttableCount_6 : decode cX7_cuttableCount 6 = .ok (.getfield 35, 3) := by decide +kernel
theorem dX7_cuttableCount_9 : decode cX7_cuttableCount 9 = .ok (.getfield 86, 3) := by decide +kernel
theorem dX7_cuttableCount_12 : decode cX7_cuttableCount 12 = .ok (.if_icmp .ge 31, 3) := by decide +kernel
theorem dX7_cuttableCount_15 : decode cX7_cuttableCount 15 = .ok (.aload_n 0, 1) := by decide +kernel
theorem dX7_cuttableCount_16 : decode cX7_cuttableCount 16 = .ok (.getfield 35, 3) := by decide +kernel
theorem dX7_cuttableCount_19 : decode cX7_cuttableCount 19 = .ok (.aload_n 0, 1) := by decide +kernel
theorem dX7_cuttableCount_20 : decode cX7_cuttableCount 20 = .ok (.getfield 35, 3) := by decide +kernel
theorem dX7_cuttableCount_23 : decode cX7_cuttableCount 23 = .ok (.getfield 145, 3) := by decide +kernel
theorem dX7_cuttableCount_26 : decode cX7_cuttableCount 26 = .ok (.iload_n 2, 1) := by decide +kernel
theorem dX7_cuttableCount_27 : decode cX7_cuttableCount 27 = .ok (.laload, 1) := by decide +kernel
theorem dX7_cuttableCount_28 : decode cX7_cuttableCount 28 = .ok (.invokevirtual 159, 3) := by decide +kernel
theorem dX7_cuttableCount_31 : decode cX7_cuttableCount 31 = .ok (.ifCond .eq 6, 3) := by decide +kernel
theorem dX7_cuttableCount_34 : decode cX7_cuttableCount 34 = .ok (.iinc 1 1, 3) := by decide +kernel
theorem dX7_cuttableCount_37 : decode cX7_cuttableCount 37 = .ok (.iinc 2 1, 3) := by decide +kernel
theorem dX7_cuttableCount_40 : decode cX7_cuttableCount 40 = .ok (.goto (-36), 3) := by decide +kernel
theorem dX7_cuttableCount_43 : decode cX7_cuttableCount 43 = .ok (.iload_n 1, 1) := by decide +kernel
theorem dX7_cuttableCount_44 : decode cX7_cuttableCount 44 = .ok (.ireturn, 1) := by decide +kernel
theorem dX7_neighbourCount_0 : decode cX7_neighbourCount 0 = .ok (.aload_n 0, 1) := by decide +kernel
theorem dX7_neighbourCount_1 : decode cX7_neighbourCount 1 = .ok (.getfield 35, 3) := by decide +kernel
theorem dX7_neighbourCount_4 : decode cX7_neighbourCount 4 = .ok (.iload_n 1, 1) := by decide +kernel
theorem dX7_neighbourCount_5 : decode cX7_neighbourCount 5 = .ok (.invokevirtual 142, 3) := by decide +kernel
theorem dX7_neighbourCount_8 : decode cX7_neighbourCount 8 = .ok (.ifCond .ne 5, 3) := by decide +kernel
theorem dX7_neighbourCount_11 : decode cX7_neighbourCount 11 = .ok (.iconst (-1), 1) := by decide +kernel
theorem dX7_neighbourCount_12 : decode cX7_neighbourCount 12 = .ok (.ireturn, 1) := by decide +kernel
theorem dX7_neighbourCount_13 : decode cX7_neighbourCount 13 = .ok (.aload_n 0, 1) := by decide +kernel
theorem dX7_neighbourCount_14 : decode cX7_neighbourCount 14 = .ok (.getfield 35, 3) := by decide +kernel
theorem dX7_neighbourCount_17 : decode cX7_neighbourCount 17 = .ok (.getfield 163, 3) := by decide +kernel
theorem dX7_neighbourCount_20 : decode cX7_neighbourCount 20 = .ok (.iload_n 1, 1) := by decide +kernel
theorem dX7_neighbourCount_21 : decode cX7_neighbourCount 21 = .ok (.laload, 1) := by decide +kernel
theorem dX7_neighbourCount_22 : decode cX7_neighbourCount 22 = .ok (.invokestatic 124, 3) := by decide +kernel
theorem dX7_neighbourCount_25 : decode cX7_neighbourCount 25 = .ok (.ireturn, 1) := by decide +kernel
theorem dX7_leadLength_0 : decode cX7_leadLength 0 = .ok (.aload_n 0, 1) := by decide +kernel
theorem dX7_leadLength_1 : decode cX7_leadLength 1 = .ok (.getfield 35, 3) := by decide +kernel
theorem dX7_leadLength_4 : decode cX7_leadLength 4 = .ok (.invokevirtual 166, 3) := by decide +kernel
theorem dX7_leadLength_7 : decode cX7_leadLength 7 = .ok (.ireturn, 1) := by decide +kernel
theorem dX7_setCellLimit_0 : decode cX7_setCellLimit 0 = .ok (.iload_n 1, 1) := by decide +kernel
theorem dX7_setCellLimit_1 : decode cX7_setCellLimit 1 = .ok (.iconst 1, 1) := by decide +kernel
theorem dX7_setCellLimit_2 : decode cX7_setCellLimit 2 = .ok (.if_icmp .lt 9, 3) := by decide +kernel
theorem dX7_setCellLimit_5 : decode cX7_setCellLimit 5 = .ok (.iload_n 1, 1) := by decide +kernel
theorem dX7_setCellLimit_6 : decode cX7_setCellLimit 6 = .ok (.bipush 49, 2) := by decide +kernel
theorem dX7_setCellLimit_8 : decode cX7_setCellLimit 8 = .ok (.if_icmp .le 5, 3) := by decide +kernel
theorem dX7_setCellLimit_11 : decode cX7_setCellLimit 11 = .ok (.iconst (-1), 1) := by decide +kernel
theorem dX7_setCellLimit_12 : decode cX7_setCellLimit 12 = .ok (.ireturn, 1) := by decide +kernel
theorem dX7_setCellLimit_13 : decode cX7_setCellLimit 13 = .ok (.aload_n 0, 1) := by decide +kernel
theorem dX7_setCellLimit_14 : decode cX7_setCellLimit 14 = .ok (.getfield 19, 3) := by decide +kernel
theorem dX7_setCellLimit_17 : decode cX7_setCellLimit 17 = .ok (.getfield 169, 3) := by decide +kernel
theorem dX7_setCellLimit_20 : decode cX7_setCellLimit 20 = .ok (.istore_n 2, 1) := by decide +kernel
theorem dX7_setCellLimit_21 : decode cX7_setCellLimit 21 = .ok (.aload_n 0, 1) := by decide +kernel
theorem dX7_setCellLimit_22 : decode cX7_setCellLimit 22 = .ok (.getfield 26, 3) := by decide +kernel
theorem dX7_setCellLimit_25 : decode cX7_setCellLimit 25 = .ok (.aload_n 0, 1) := by decide +kernel
theorem dX7_setCellLimit_26 : decode cX7_setCellLimit 26 = .ok (.getfield 19, 3) := by decide +kernel
theorem dX7_setCellLimit_29 : decode cX7_setCellLimit 29 = .ok (.invokevirtual 70, 3) := by decide +kernel
theorem dX7_setCellLimit_32 : decode cX7_setCellLimit 32 = .ok (.aload_n 0, 1) := by decide +kernel
theorem dX7_setCellLimit_33 : decode cX7_setCellLimit 33 = .ok (.getfield 19, 3) := by decide +kernel
theorem dX7_setCellLimit_36 : decode cX7_setCellLimit 36 = .ok (.iload_n 1, 1) := by decide +kernel
theorem dX7_setCellLimit_37 : decode cX7_setCellLimit 37 = .ok (.putfield 169, 3) := by decide +kernel
theorem dX7_setCellLimit_40 : decode cX7_setCellLimit 40 = .ok (.aload_n 0, 1) := by decide +kernel
theorem dX7_setCellLimit_41 : decode cX7_setCellLimit 41 = .ok (.invokevirtual 83, 3) := by decide +kernel
theorem dX7_setCellLimit_44 : decode cX7_setCellLimit 44 = .ok (.iload_n 2, 1) := by decide +kernel
theorem dX7_setCellLimit_45 : decode cX7_setCellLimit 45 = .ok (.ireturn, 1) := by decide +kernel
theorem dX7_setCornerLimit_0 : decode cX7_setCornerLimit 0 = .ok (.iload_n 1, 1) := by decide +kernel
theorem dX7_setCornerLimit_1 : decode cX7_setCornerLimit 1 = .ok (.ifCond .lt 9, 3) := by decide +kernel
theorem dX7_setCornerLimit_4 : decode cX7_setCornerLimit 4 = .ok (.iload_n 1, 1) := by decide +kernel
theorem dX7_setCornerLimit_5 : decode cX7_setCornerLimit 5 = .ok (.bipush 8, 2) := by decide +kernel
theorem dX7_setCornerLimit_7 : decode cX7_setCornerLimit 7 = .ok (.if_icmp .le 5, 3) := by decide +kernel
theorem dX7_setCornerLimit_10 : decode cX7_setCornerLimit 10 = .ok (.iconst (-1), 1) := by decide +kernel
theorem dX7_setCornerLimit_11 : decode cX7_setCornerLimit 11 = .ok (.ireturn, 1) := by decide +kernel
theorem dX7_setCornerLimit_12 : decode cX7_setCornerLimit 12 = .ok (.aload_n 0, 1) := by decide +kernel
theorem dX7_setCornerLimit_13 : decode cX7_setCornerLimit 13 = .ok (.getfield 19, 3) := by decide +kernel
theorem dX7_setCornerLimit_16 : decode cX7_setCornerLimit 16 = .ok (.getfield 172, 3) := by decide +kernel
theorem dX7_setCornerLimit_19 : decode cX7_setCornerLimit 19 = .ok (.istore_n 2, 1) := by decide +kernel
theorem dX7_setCornerLimit_20 : decode cX7_setCornerLimit 20 = .ok (.aload_n 0, 1) := by decide +kernel
theorem dX7_setCornerLimit_21 : decode cX7_setCornerLimit 21 = .ok (.getfield 26, 3) := by decide +kernel
theorem dX7_setCornerLimit_24 : decode cX7_setCornerLimit 24 = .ok (.aload_n 0, 1) := by decide +kernel
theorem dX7_setCornerLimit_25 : decode cX7_setCornerLimit 25 = .ok (.getfield 19, 3) := by decide +kernel
theorem dX7_setCornerLimit_28 : decode cX7_setCornerLimit 28 = .ok (.invokevirtual 70, 3) := by decide +kernel
theorem dX7_setCornerLimit_31 : decode cX7_setCornerLimit 31 = .ok (.aload_n 0, 1) := by decide +kernel
theorem dX7_setCornerLimit_32 : decode cX7_setCornerLimit 32 = .ok (.getfield 19, 3) := by decide +kernel
theorem dX7_setCornerLimit_35 : decode cX7_setCornerLimit 35 = .ok (.iload_n 1, 1) := by decide +kernel
theorem dX7_setCornerLimit_36 : decode cX7_setCornerLimit 36 = .ok (.putfield 172, 3) := by decide +kernel
theorem dX7_setCornerLimit_39 : decode cX7_setCornerLimit 39 = .ok (.aload_n 0, 1) := by decide +kernel
theorem dX7_setCornerLimit_40 : decode cX7_setCornerLimit 40 = .ok (.invokevirtual 83, 3) := by decide +kernel
theorem dX7_setCornerLimit_43 : decode cX7_setCornerLimit 43 = .ok (.iload_n 2, 1) := by decide +kernel
theorem dX7_setCornerLimit_44 : decode cX7_setCornerLimit 44 = .ok (.ireturn, 1) := by decide +kernel
theorem dX7_splitPieces_0 : decode cX7_splitPieces 0 = .ok (.aload_n 0, 1) := by decide +kernel
theorem dX7_splitPieces_1 : decode cX7_splitPieces 1 = .ok (.getfield 35, 3) := by decide +kernel
theorem dX7_splitPieces_4 : decode cX7_splitPieces 4 = .ok (.iload_n 1, 1) := by decide +kernel
theorem dX7_splitPieces_5 : decode cX7_splitPieces 5 = .ok (.invokevirtual 142, 3) := by decide +kernel
theorem dX7_splitPieces_8 : decode cX7_splitPieces 8 = .ok (.ifCond .ne 5, 3) := by decide +kernel
theorem dX7_splitPieces_11 : decode cX7_splitPieces 11 = .ok (.iconst (-1), 1) := by decide +kernel
theorem dX7_splitPieces_12 : decode cX7_splitPieces 12 = .ok (.ireturn, 1) := by decide +kernel
theorem dX7_splitPieces_13 : decode cX7_splitPieces 13 = .ok (.aload_n 0, 1) := by decide +kernel
theorem dX7_splitPieces_14 : decode cX7_splitPieces 14 = .ok (.getfield 44, 3) := by decide +kernel
theorem dX7_splitPieces_17 : decode cX7_splitPieces 17 = .ok (.iload_n 1, 1) := by decide +kernel
theorem dX7_splitPieces_18 : decode cX7_splitPieces 18 = .ok (.invokevirtual 175, 3) := by decide +kernel
theorem dX7_splitPieces_21 : decode cX7_splitPieces 21 = .ok (.aload_n 0, 1) := by decide +kernel
theorem dX7_splitPieces_22 : decode cX7_splitPieces 22 = .ok (.getfield 44, 3) := by decide +kernel
theorem dX7_splitPieces_25 : decode cX7_splitPieces 25 = .ok (.invokevirtual 179, 3) := by decide +kernel
theorem dX7_splitPieces_28 : decode cX7_splitPieces 28 = .ok (.ireturn, 1) := by decide +kernel
theorem dX7_splitLead_0 : decode cX7_splitLead 0 = .ok (.aload_n 0, 1) := by decide +kernel
theorem dX7_splitLead_1 : decode cX7_splitLead 1 = .ok (.getfield 35, 3) := by decide +kernel
theorem dX7_splitLead_4 : decode cX7_splitLead 4 = .ok (.iload_n 1, 1) := by decide +kernel
theorem dX7_splitLead_5 : decode cX7_splitLead 5 = .ok (.invokevirtual 142, 3) := by decide +kernel
theorem dX7_splitLead_8 : decode cX7_splitLead 8 = .ok (.ifCond .ne 5, 3) := by decide +kernel
theorem dX7_splitLead_11 : decode cX7_splitLead 11 = .ok (.iconst (-1), 1) := by decide +kernel
theorem dX7_splitLead_12 : decode cX7_splitLead 12 = .ok (.ireturn, 1) := by decide +kernel
theorem dX7_splitLead_13 : decode cX7_splitLead 13 = .ok (.aload_n 0, 1) := by decide +kernel
theorem dX7_splitLead_14 : decode cX7_splitLead 14 = .ok (.getfield 44, 3) := by decide +kernel
theorem dX7_splitLead_17 : decode cX7_splitLead 17 = .ok (.iload_n 1, 1) := by decide +kernel
theorem dX7_splitLead_18 : decode cX7_splitLead 18 = .ok (.invokevirtual 175, 3) := by decide +kernel
theorem dX7_splitLead_21 : decode cX7_splitLead 21 = .ok (.aload_n 0, 1) := by decide +kernel
theorem dX7_splitLead_22 : decode cX7_splitLead 22 = .ok (.getfield 44, 3) := by decide +kernel
theorem dX7_splitLead_25 : decode cX7_splitLead 25 = .ok (.invokevirtual 182, 3) := by decide +kernel
theorem dX7_splitLead_28 : decode cX7_splitLead 28 = .ok (.ireturn, 1) := by decide +kernel
theorem dX7_applySplit_0 : decode cX7_applySplit 0 = .ok (.aload_n 0, 1) := by decide +kernel
theorem dX7_applySplit_1 : decode cX7_applySplit 1 = .ok (.getfield 35, 3) := by decide +kernel
theorem dX7_applySplit_4 : decode cX7_applySplit 4 = .ok (.iload_n 1, 1) := by decide +kernel
theorem dX7_applySplit_5 : decode cX7_applySplit 5 = .ok (.invokevirtual 142, 3) := by decide +kernel
theorem dX7_applySplit_8 : decode cX7_applySplit 8 = .ok (.ifCond .ne 5, 3) := by decide +kernel
theorem dX7_applySplit_11 : decode cX7_applySplit 11 = .ok (.iconst (-1), 1) := by decide +kernel
theorem dX7_applySplit_12 : decode cX7_applySplit 12 = .ok (.ireturn, 1) := by decide +kernel
theorem dX7_applySplit_13 : decode cX7_applySplit 13 = .ok (.aload_n 0, 1) := by decide +kernel
theorem dX7_applySplit_14 : decode cX7_applySplit 14 = .ok (.getfield 35, 3) := by decide +kernel
theorem dX7_applySplit_17 : decode cX7_applySplit 17 = .ok (.aload_n 0, 1) := by decide +kernel
theorem dX7_applySplit_18 : decode cX7_applySplit 18 = .ok (.getfield 35, 3) := by decide +kernel
theorem dX7_applySplit_21 : decode cX7_applySplit 21 = .ok (.getfield 145, 3) := by decide +kernel
theorem dX7_applySplit_24 : decode cX7_applySplit 24 = .ok (.iload_n 1, 1) := by decide +kernel
theorem dX7_applySplit_25 : decode cX7_applySplit 25 = .ok (.laload, 1) := by decide +kernel
theorem dX7_applySplit_26 : decode cX7_applySplit 26 = .ok (.invokevirtual 159, 3) := by decide +kernel
theorem dX7_applySplit_29 : decode cX7_applySplit 29 = .ok (.ifCond .eq 6, 3) := by decide +kernel
theorem dX7_applySplit_32 : decode cX7_applySplit 32 = .ok (.bipush (-2), 2) := by decide +kernel
theorem dX7_applySplit_34 : decode cX7_applySplit 34 = .ok (.ireturn, 1) := by decide +kernel
theorem dX7_applySplit_35 : decode cX7_applySplit 35 = .ok (.aload_n 0, 1) := by decide +kernel
theorem dX7_applySplit_36 : decode cX7_applySplit 36 = .ok (.getfield 44, 3) := by decide +kernel
theorem dX7_applySplit_39 : decode cX7_applySplit 39 = .ok (.iload_n 1, 1) := by decide +kernel
theorem dX7_applySplit_40 : decode cX7_applySplit 40 = .ok (.invokevirtual 175, 3) := by decide +kernel
theorem dX7_applySplit_43 : decode cX7_applySplit 43 = .ok (.aload_n 0, 1) := by decide +kernel
theorem dX7_applySplit_44 : decode cX7_applySplit 44 = .ok (.getfield 26, 3) := by decide +kernel
theorem dX7_applySplit_47 : decode cX7_applySplit 47 = .ok (.aload_n 0, 1) := by decide +kernel
theorem dX7_applySplit_48 : decode cX7_applySplit 48 = .ok (.getfield 19, 3) := by decide +kernel
theorem dX7_applySplit_51 : decode cX7_applySplit 51 = .ok (.invokevirtual 70, 3) := by decide +kernel
theorem dX7_applySplit_54 : decode cX7_applySplit 54 = .ok (.aload_n 0, 1) := by decide +kernel
theorem dX7_applySplit_55 : decode cX7_applySplit 55 = .ok (.getfield 44, 3) := by decide +kernel
theorem dX7_applySplit_58 : decode cX7_applySplit 58 = .ok (.aload_n 0, 1) := by decide +kernel
theorem dX7_applySplit_59 : decode cX7_applySplit 59 = .ok (.getfield 19, 3) := by decide +kernel
theorem dX7_applySplit_62 : decode cX7_applySplit 62 = .ok (.invokevirtual 185, 3) := by decide +kernel
theorem dX7_applySplit_65 : decode cX7_applySplit 65 = .ok (.aload_n 0, 1) := by decide +kernel
theorem dX7_applySplit_66 : decode cX7_applySplit 66 = .ok (.invokevirtual 83, 3) := by decide +kernel
theorem dX7_applySplit_69 : decode cX7_applySplit 69 = .ok (.aload_n 0, 1) := by decide +kernel
theorem dX7_applySplit_70 : decode cX7_applySplit 70 = .ok (.getfield 35, 3) := by decide +kernel
theorem dX7_applySplit_73 : decode cX7_applySplit 73 = .ok (.getfield 86, 3) := by decide +kernel
theorem dX7_applySplit_76 : decode cX7_applySplit 76 = .ok (.ireturn, 1) := by decide +kernel
theorem dX7_equalNeighbours_0 : decode cX7_equalNeighbours 0 = .ok (.aload_n 0, 1) := by decide +kernel
theorem dX7_equalNeighbours_1 : decode cX7_equalNeighbours 1 = .ok (.getfield 35, 3) := by decide +kernel
theorem dX7_equalNeighbours_4 : decode cX7_equalNeighbours 4 = .ok (.invokevirtual 188, 3) := by decide +kernel
theorem dX7_equalNeighbours_7 : decode cX7_equalNeighbours 7 = .ok (.ireturn, 1) := by decide +kernel
theorem dX7_colourCount_0 : decode cX7_colourCount 0 = .ok (.aload_n 0, 1) := by decide +kernel
theorem dX7_colourCount_1 : decode cX7_colourCount 1 = .ok (.getfield 51, 3) := by decide +kernel
theorem dX7_colourCount_4 : decode cX7_colourCount 4 = .ok (.iload_n 1, 1) := by decide +kernel
theorem dX7_colourCount_5 : decode cX7_colourCount 5 = .ok (.invokevirtual 191, 3) := by decide +kernel
theorem dX7_colourCount_8 : decode cX7_colourCount 8 = .ok (.ifCond .ne 5, 3) := by decide +kernel
theorem dX7_colourCount_11 : decode cX7_colourCount 11 = .ok (.iconst (-1), 1) := by decide +kernel
theorem dX7_colourCount_12 : decode cX7_colourCount 12 = .ok (.ireturn, 1) := by decide +kernel
theorem dX7_colourCount_13 : decode cX7_colourCount 13 = .ok (.aload_n 0, 1) := by decide +kernel
theorem dX7_colourCount_14 : decode cX7_colourCount 14 = .ok (.getfield 51, 3) := by decide +kernel
theorem dX7_colourCount_17 : decode cX7_colourCount 17 = .ok (.iload_n 1, 1) := by decide +kernel
theorem dX7_colourCount_18 : decode cX7_colourCount 18 = .ok (.invokevirtual 194, 3) := by decide +kernel
theorem dX7_colourCount_21 : decode cX7_colourCount 21 = .ok (.ireturn, 1) := by decide +kernel
theorem dX7_suggestedColour_0 : decode cX7_suggestedColour 0 = .ok (.aload_n 0, 1) := by decide +kernel
theorem dX7_suggestedColour_1 : decode cX7_suggestedColour 1 = .ok (.getfield 51, 3) := by decide +kernel
theorem dX7_suggestedColour_4 : decode cX7_suggestedColour 4 = .ok (.iload_n 1, 1) := by decide +kernel
theorem dX7_suggestedColour_5 : decode cX7_suggestedColour 5 = .ok (.invokevirtual 191, 3) := by decide +kernel
theorem dX7_suggestedColour_8 : decode cX7_suggestedColour 8 = .ok (.ifCond .eq 14, 3) := by decide +kernel
theorem dX7_suggestedColour_11 : decode cX7_suggestedColour 11 = .ok (.aload_n 0, 1) := by decide +kernel
theorem dX7_suggestedColour_12 : decode cX7_suggestedColour 12 = .ok (.getfield 35, 3) := by decide +kernel
theorem dX7_suggestedColour_15 : decode cX7_suggestedColour 15 = .ok (.iload_n 2, 1) := by decide +kernel
theorem dX7_suggestedColour_16 : decode cX7_suggestedColour 16 = .ok (.invokevirtual 142, 3) := by decide +kernel
theorem dX7_suggestedColour_19 : decode cX7_suggestedColour 19 = .ok (.ifCond .ne 5, 3) := by decide +kernel
theorem dX7_suggestedColour_22 : decode cX7_suggestedColour 22 = .ok (.iconst (-1), 1) := by decide +kernel
theorem dX7_suggestedColour_23 : decode cX7_suggestedColour 23 = .ok (.ireturn, 1) := by decide +kernel
theorem dX7_suggestedColour_24 : decode cX7_suggestedColour 24 = .ok (.aload_n 0, 1) := by decide +kernel
theorem dX7_suggestedColour_25 : decode cX7_suggestedColour 25 = .ok (.getfield 51, 3) := by decide +kernel
theorem dX7_suggestedColour_28 : decode cX7_suggestedColour 28 = .ok (.iload_n 1, 1) := by decide +kernel
theorem dX7_suggestedColour_29 : decode cX7_suggestedColour 29 = .ok (.invokevirtual 194, 3) := by decide +kernel
theorem dX7_suggestedColour_32 : decode cX7_suggestedColour 32 = .ok (.pop, 1) := by decide +kernel
theorem dX7_suggestedColour_33 : decode cX7_suggestedColour 33 = .ok (.aload_n 0, 1) := by decide +kernel
theorem dX7_suggestedColour_34 : decode cX7_suggestedColour 34 = .ok (.getfield 51, 3) := by decide +kernel
theorem dX7_suggestedColour_37 : decode cX7_suggestedColour 37 = .ok (.getfield 198, 3) := by decide +kernel
theorem dX7_suggestedColour_40 : decode cX7_suggestedColour 40 = .ok (.iload_n 2, 1) := by decide +kernel
theorem dX7_suggestedColour_41 : decode cX7_suggestedColour 41 = .ok (.iaload, 1) := by decide +kernel
theorem dX7_suggestedColour_42 : decode cX7_suggestedColour 42 = .ok (.ireturn, 1) := by decide +kernel
theorem dX7_bestOrder_0 : decode cX7_bestOrder 0 = .ok (.iconst 0, 1) := by decide +kernel
theorem dX7_bestOrder_1 : decode cX7_bestOrder 1 = .ok (.istore_n 1, 1) := by decide +kernel
theorem dX7_bestOrder_2 : decode cX7_bestOrder 2 = .ok (.aload_n 0, 1) := by decide +kernel
theorem dX7_bestOrder_3 : decode cX7_bestOrder 3 = .ok (.getfield 51, 3) := by decide +kernel
theorem dX7_bestOrder_6 : decode cX7_bestOrder 6 = .ok (.iconst 0, 1) := by decide +kernel
theorem dX7_bestOrder_7 : decode cX7_bestOrder 7 = .ok (.invokevirtual 194, 3) := by decide +kernel
theorem dX7_bestOrder_10 : decode cX7_bestOrder 10 = .ok (.istore_n 2, 1) := by decide +kernel
theorem dX7_bestOrder_11 : decode cX7_bestOrder 11 = .ok (.iconst 1, 1) := by decide +kernel
theorem dX7_bestOrder_12 : decode cX7_bestOrder 12 = .ok (.istore_n 3, 1) := by decide +kernel
theorem dX7_bestOrder_13 : decode cX7_bestOrder 13 = .ok (.iload_n 3, 1) := by decide +kernel
theorem dX7_bestOrder_14 : decode cX7_bestOrder 14 = .ok (.iconst 3, 1) := by decide +kernel
theorem dX7_bestOrder_15 : decode cX7_bestOrder 15 = .ok (.if_icmp .ge 30, 3) := by decide +kernel
theorem dX7_bestOrder_18 : decode cX7_bestOrder 18 = .ok (.aload_n 0, 1) := by decide +kernel
theorem dX7_bestOrder_19 : decode cX7_bestOrder 19 = .ok (.getfield 51, 3) := by decide +kernel
theorem dX7_bestOrder_22 : decode cX7_bestOrder 22 = .ok (.iload_n 3, 1) := by decide +kernel
theorem dX7_bestOrder_23 : decode cX7_bestOrder 23 = .ok (.invokevirtual 194, 3) := by decide +kernel
theorem dX7_bestOrder_26 : decode cX7_bestOrder 26 = .ok (.istore 4, 2) := by decide +kernel
theorem dX7_bestOrder_28 : decode cX7_bestOrder 28 = .ok (.iload 4, 2) := by decide +kernel
theorem dX7_bestOrder_30 : decode cX7_bestOrder 30 = .ok (.iload_n 2, 1) := by decide +kernel
theorem dX7_bestOrder_31 : decode cX7_bestOrder 31 = .ok (.if_icmp .ge 8, 3) := by decide +kernel
theorem dX7_bestOrder_34 : decode cX7_bestOrder 34 = .ok (.iload 4, 2) := by decide +kernel
theorem dX7_bestOrder_36 : decode cX7_bestOrder 36 = .ok (.istore_n 2, 1) := by decide +kernel
theorem dX7_bestOrder_37 : decode cX7_bestOrder 37 = .ok (.iload_n 3, 1) := by decide +kernel
theorem dX7_bestOrder_38 : decode cX7_bestOrder 38 = .ok (.istore_n 1, 1) := by decide +kernel
theorem dX7_bestOrder_39 : decode cX7_bestOrder 39 = .ok (.iinc 3 1, 3) := by decide +kernel
theorem dX7_bestOrder_42 : decode cX7_bestOrder 42 = .ok (.goto (-29), 3) := by decide +kernel
theorem dX7_bestOrder_45 : decode cX7_bestOrder 45 = .ok (.iload_n 1, 1) := by decide +kernel
theorem dX7_bestOrder_46 : decode cX7_bestOrder 46 = .ok (.ireturn, 1) := by decide +kernel
theorem dX7_largestClique_0 : decode cX7_largestClique 0 = .ok (.aload_n 0, 1) := by decide +kernel
theorem dX7_largestClique_1 : decode cX7_largestClique 1 = .ok (.getfield 35, 3) := by decide +kernel
theorem dX7_largestClique_4 : decode cX7_largestClique 4 = .ok (.invokevirtual 201, 3) := by decide +kernel
theorem dX7_largestClique_7 : decode cX7_largestClique 7 = .ok (.ireturn, 1) := by decide +kernel
theorem dX7_undo_0 : decode cX7_undo 0 = .ok (.aload_n 0, 1) := by decide +kernel
theorem dX7_undo_1 : decode cX7_undo 1 = .ok (.getfield 26, 3) := by decide +kernel
theorem dX7_undo_4 : decode cX7_undo 4 = .ok (.getfield 204, 3) := by decide +kernel
theorem dX7_undo_7 : decode cX7_undo 7 = .ok (.ifCond .ne 6, 3) := by decide +kernel
theorem dX7_undo_10 : decode cX7_undo 10 = .ok (.bipush (-2), 2) := by decide +kernel
theorem dX7_undo_12 : decode cX7_undo 12 = .ok (.ireturn, 1) := by decide +kernel
theorem dX7_undo_13 : decode cX7_undo 13 = .ok (.aload_n 0, 1) := by decide +kernel
theorem dX7_undo_14 : decode cX7_undo 14 = .ok (.getfield 26, 3) := by decide +kernel
theorem dX7_undo_17 : decode cX7_undo 17 = .ok (.aload_n 0, 1) := by decide +kernel
theorem dX7_undo_18 : decode cX7_undo 18 = .ok (.getfield 19, 3) := by decide +kernel
theorem dX7_undo_21 : decode cX7_undo 21 = .ok (.invokevirtual 205, 3) := by decide +kernel
theorem dX7_undo_24 : decode cX7_undo 24 = .ok (.aload_n 0, 1) := by decide +kernel
theorem dX7_undo_25 : decode cX7_undo 25 = .ok (.invokevirtual 83, 3) := by decide +kernel
theorem dX7_undo_28 : decode cX7_undo 28 = .ok (.aload_n 0, 1) := by decide +kernel
theorem dX7_undo_29 : decode cX7_undo 29 = .ok (.getfield 26, 3) := by decide +kernel
theorem dX7_undo_32 : decode cX7_undo 32 = .ok (.getfield 204, 3) := by decide +kernel
theorem dX7_undo_35 : decode cX7_undo 35 = .ok (.ireturn, 1) := by decide +kernel
theorem dX7_flipCut_0 : decode cX7_flipCut 0 = .ok (.aload_n 0, 1) := by decide +kernel
theorem dX7_flipCut_1 : decode cX7_flipCut 1 = .ok (.getfield 26, 3) := by decide +kernel
theorem dX7_flipCut_4 : decode cX7_flipCut 4 = .ok (.aload_n 0, 1) := by decide +kernel
theorem dX7_flipCut_5 : decode cX7_flipCut 5 = .ok (.getfield 19, 3) := by decide +kernel
theorem dX7_flipCut_8 : decode cX7_flipCut 8 = .ok (.invokevirtual 70, 3) := by decide +kernel
theorem dX7_flipCut_11 : decode cX7_flipCut 11 = .ok (.aload_n 0, 1) := by decide +kernel
theorem dX7_flipCut_12 : decode cX7_flipCut 12 = .ok (.getfield 19, 3) := by decide +kernel
theorem dX7_flipCut_15 : decode cX7_flipCut 15 = .ok (.iload_n 1, 1) := by decide +kernel
theorem dX7_flipCut_16 : decode cX7_flipCut 16 = .ok (.iload_n 2, 1) := by decide +kernel
theorem dX7_flipCut_17 : decode cX7_flipCut 17 = .ok (.iload_n 3, 1) := by decide +kernel
theorem dX7_flipCut_18 : decode cX7_flipCut 18 = .ok (.invokevirtual 208, 3) := by decide +kernel
theorem dX7_flipCut_21 : decode cX7_flipCut 21 = .ok (.aload_n 0, 1) := by decide +kernel
theorem dX7_flipCut_22 : decode cX7_flipCut 22 = .ok (.invokevirtual 83, 3) := by decide +kernel
theorem dX7_flipCut_25 : decode cX7_flipCut 25 = .ok (.aload_n 0, 1) := by decide +kernel
theorem dX7_flipCut_26 : decode cX7_flipCut 26 = .ok (.getfield 19, 3) := by decide +kernel
theorem dX7_flipCut_29 : decode cX7_flipCut 29 = .ok (.invokevirtual 212, 3) := by decide +kernel
theorem dX7_flipCut_32 : decode cX7_flipCut 32 = .ok (.ireturn, 1) := by decide +kernel
theorem dX7_refresh_0 : decode cX7_refresh 0 = .ok (.aload_n 0, 1) := by decide +kernel
theorem dX7_refresh_1 : decode cX7_refresh 1 = .ok (.getfield 35, 3) := by decide +kernel
theorem dX7_refresh_4 : decode cX7_refresh 4 = .ok (.invokevirtual 55, 3) := by decide +kernel
theorem dX7_refresh_7 : decode cX7_refresh 7 = .ok (.aload_n 0, 1) := by decide +kernel
theorem dX7_refresh_8 : decode cX7_refresh 8 = .ok (.getfield 44, 3) := by decide +kernel
theorem dX7_refresh_11 : decode cX7_refresh 11 = .ok (.invokevirtual 215, 3) := by decide +kernel
theorem dX7_refresh_14 : decode cX7_refresh 14 = .ok (.return_, 1) := by decide +kernel
theorem dX8_init_0 : decode cX8_init 0 = .ok (.aload_n 0, 1) := by decide +kernel
theorem dX8_init_1 : decode cX8_init 1 = .ok (.invokespecial 1, 3) := by decide +kernel
theorem dX8_init_4 : decode cX8_init 4 = .ok (.aload_n 0, 1) := by decide +kernel
theorem dX8_init_5 : decode cX8_init 5 = .ok (.sipush 151, 3) := by decide +kernel
theorem dX8_init_8 : decode cX8_init 8 = .ok (.newarray .int, 2) := by decide +kernel
theorem dX8_init_10 : decode cX8_init 10 = .ok (.putfield 7, 3) := by decide +kernel
theorem dX8_init_13 : decode cX8_init 13 = .ok (.aload_n 0, 1) := by decide +kernel
theorem dX8_init_14 : decode cX8_init 14 = .ok (.sipush 1208, 3) := by decide +kernel
theorem dX8_init_17 : decode cX8_init 17 = .ok (.newarray .int, 2) := by decide +kernel
theorem dX8_init_19 : decode cX8_init 19 = .ok (.putfield 13, 3) := by decide +kernel
theorem dX8_init_22 : decode cX8_init 22 = .ok (.aload_n 0, 1) := by decide +kernel
theorem dX8_init_23 : decode cX8_init 23 = .ok (.bipush 80, 2) := by decide +kernel
theorem dX8_init_25 : decode cX8_init 25 = .ok (.newarray .int, 2) := by decide +kernel
theorem dX8_init_27 : decode cX8_init 27 = .ok (.putfield 16, 3) := by decide +kernel
theorem dX8_init_30 : decode cX8_init 30 = .ok (.aload_n 0, 1) := by decide +kernel
theorem dX8_init_31 : decode cX8_init 31 = .ok (.bipush 49, 2) := by decide +kernel
theorem dX8_init_33 : decode cX8_init 33 = .ok (.newarray .int, 2) := by decide +kernel
theorem dX8_init_35 : decode cX8_init 35 = .ok (.putfield 19, 3) := by decide +kernel
theorem dX8_init_38 : decode cX8_init 38 = .ok (.aload_n 0, 1) := by decide +kernel
theorem dX8_init_39 : decode cX8_init 39 = .ok (.bipush 49, 2) := by decide +kernel
theorem dX8_init_41 : decode cX8_init 41 = .ok (.newarray .int, 2) := by decide +kernel
theorem dX8_init_43 : decode cX8_init 43 = .ok (.putfield 22, 3) := by decide +kernel
theorem dX8_init_46 : decode cX8_init 46 = .ok (.aload_n 0, 1) := by decide +kernel
theorem dX8_init_47 : decode cX8_init 47 = .ok (.bipush 49, 2) := by decide +kernel
theorem dX8_init_49 : decode cX8_init 49 = .ok (.newarray .int, 2) := by decide +kernel
theorem dX8_init_51 : decode cX8_init 51 = .ok (.putfield 25, 3) := by decide +kernel
theorem dX8_init_54 : decode cX8_init 54 = .ok (.aload_n 0, 1) := by decide +kernel
theorem dX8_init_55 : decode cX8_init 55 = .ok (.bipush 49, 2) := by decide +kernel
theorem dX8_init_57 : decode cX8_init 57 = .ok (.newarray .int, 2) := by decide +kernel
theorem dX8_init_59 : decode cX8_init 59 = .ok (.putfield 28, 3) := by decide +kernel
theorem dX8_init_62 : decode cX8_init 62 = .ok (.aload_n 0, 1) := by decide +kernel
theorem dX8_init_63 : decode cX8_init 63 = .ok (.bipush 49, 2) := by decide +kernel
theorem dX8_init_65 : decode cX8_init 65 = .ok (.newarray .int, 2) := by decide +kernel
theorem dX8_init_67 : decode cX8_init 67 = .ok (.putfield 31, 3) := by decide +kernel
theorem dX8_init_70 : decode cX8_init 70 = .ok (.aload_n 0, 1) := by decide +kernel
theorem dX8_init_71 : decode cX8_init 71 = .ok (.bipush 49, 2) := by decide +kernel
theorem dX8_init_73 : decode cX8_init 73 = .ok (.newarray .boolean, 2) := by decide +kernel
theorem dX8_init_75 : decode cX8_init 75 = .ok (.putfield 34, 3) := by decide +kernel
theorem dX8_init_78 : decode cX8_init 78 = .ok (.aload_n 0, 1) := by decide +kernel
theorem dX8_init_79 : decode cX8_init 79 = .ok (.sipush 2401, 3) := by decide +kernel
theorem dX8_init_82 : decode cX8_init 82 = .ok (.newarray .boolean, 2) := by decide +kernel
theorem dX8_init_84 : decode cX8_init 84 = .ok (.putfield 38, 3) := by decide +kernel
theorem dX8_init_87 : decode cX8_init 87 = .ok (.aload_n 0, 1) := by decide +kernel
theorem dX8_init_88 : decode cX8_init 88 = .ok (.bipush 49, 2) := by decide +kernel
theorem dX8_init_90 : decode cX8_init 90 = .ok (.newarray .int, 2) := by decide +kernel
theorem dX8_init_92 : decode cX8_init 92 = .ok (.putfield 41, 3) := by decide +kernel
theorem dX8_init_95 : decode cX8_init 95 = .ok (.aload_n 0, 1) := by decide +kernel
theorem dX8_init_96 : decode cX8_init 96 = .ok (.sipush 2401, 3) := by decide +kernel
theorem dX8_init_99 : decode cX8_init 99 = .ok (.newarray .int, 2) := by decide +kernel
theorem dX8_init_101 : decode cX8_init 101 = .ok (.putfield 44, 3) := by decide +kernel
theorem dX8_init_104 : decode cX8_init 104 = .ok (.aload_n 0, 1) := by decide +kernel
theorem dX8_init_105 : decode cX8_init 105 = .ok (.sipush 2401, 3) := by decide +kernel
theorem dX8_init_108 : decode cX8_init 108 = .ok (.newarray .int, 2) := by decide +kernel
theorem dX8_init_110 : decode cX8_init 110 = .ok (.putfield 47, 3) := by decide +kernel
theorem dX8_init_113 : decode cX8_init 113 = .ok (.aload_n 0, 1) := by decide +kernel
theorem dX8_init_114 : decode cX8_init 114 = .ok (.sipush 2401, 3) := by decide +kernel
theorem dX8_init_117 : decode cX8_init 117 = .ok (.newarray .int, 2) := by decide +kernel
theorem dX8_init_119 : decode cX8_init 119 = .ok (.putfield 50, 3) := by decide +kernel
theorem dX8_init_122 : decode cX8_init 122 = .ok (.aload_n 0, 1) := by decide +kernel
theorem dX8_init_123 : decode cX8_init 123 = .ok (.sipush 128, 3) := by decide +kernel
theorem dX8_init_126 : decode cX8_init 126 = .ok (.newarray .int, 2) := by decide +kernel
theorem dX8_init_128 : decode cX8_init 128 = .ok (.putfield 53, 3) := by decide +kernel
theorem dX8_init_131 : decode cX8_init 131 = .ok (.aload_n 0, 1) := by decide +kernel
theorem dX8_init_132 : decode cX8_init 132 = .ok (.bipush 49, 2) := by decide +kernel
theorem dX8_init_134 : decode cX8_init 134 = .ok (.newarray .int, 2) := by decide +kernel
theorem dX8_init_136 : decode cX8_init 136 = .ok (.putfield 56, 3) := by decide +kernel
theorem dX8_init_139 : decode cX8_init 139 = .ok (.aload_n 0, 1) := by decide +kernel
theorem dX8_init_140 : decode cX8_init 140 = .ok (.bipush 49, 2) := by decide +kernel
theorem dX8_init_142 : decode cX8_init 142 = .ok (.newarray .boolean, 2) := by decide +kernel
theorem dX8_init_144 : decode cX8_init 144 = .ok (.putfield 59, 3) := by decide +kernel
theorem dX8_init_147 : decode cX8_init 147 = .ok (.aload_n 0, 1) := by decide +kernel
theorem dX8_init_148 : decode cX8_init 148 = .ok (.bipush 49, 2) := by decide +kernel
theorem dX8_init_150 : decode cX8_init 150 = .ok (.newarray .int, 2) := by decide +kernel
theorem dX8_init_152 : decode cX8_init 152 = .ok (.putfield 62, 3) := by decide +kernel
theorem dX8_init_155 : decode cX8_init 155 = .ok (.aload_n 0, 1) := by decide +kernel
theorem dX8_init_156 : decode cX8_init 156 = .ok (.getfield 7, 3) := by decide +kernel
theorem dX8_init_159 : decode cX8_init 159 = .ok (.iconst 0, 1) := by decide +kernel
theorem dX8_init_160 : decode cX8_init 160 = .ok (.iconst 3, 1) := by decide +kernel
theorem dX8_init_161 : decode cX8_init 161 = .ok (.iastore, 1) := by decide +kernel
theorem dX8_init_162 : decode cX8_init 162 = .ok (.aload_n 0, 1) := by decide +kernel
theorem dX8_init_163 : decode cX8_init 163 = .ok (.getfield 7, 3) := by decide +kernel
theorem dX8_init_166 : decode cX8_init 166 = .ok (.iconst 1, 1) := by decide +kernel
theorem dX8_init_167 : decode cX8_init 167 = .ok (.iconst 3, 1) := by decide +kernel
theorem dX8_init_168 : decode cX8_init 168 = .ok (.iastore, 1) := by decide +kernel
theorem dX8_init_169 : decode cX8_init 169 = .ok (.aload_n 0, 1) := by decide +kernel
theorem dX8_init_170 : decode cX8_init 170 = .ok (.getfield 7, 3) := by decide +kernel
theorem dX8_init_173 : decode cX8_init 173 = .ok (.iconst 2, 1) := by decide +kernel
theorem dX8_init_174 : decode cX8_init 174 = .ok (.bipush 12, 2) := by decide +kernel
theorem dX8_init_176 : decode cX8_init 176 = .ok (.iastore, 1) := by decide +kernel
theorem dX8_init_177 : decode cX8_init 177 = .ok (.aload_n 0, 1) := by decide +kernel
theorem dX8_init_178 : decode cX8_init 178 = .ok (.getfield 7, 3) := by decide +kernel
theorem dX8_init_181 : decode cX8_init 181 = .ok (.iconst 3, 1) := by decide +kernel
theorem dX8_init_182 : decode cX8_init 182 = .ok (.iconst 1, 1) := by decide +kernel
theorem dX8_init_183 : decode cX8_init 183 = .ok (.iastore, 1) := by decide +kernel
theorem dX8_init_184 : decode cX8_init 184 = .ok (.return_, 1) := by decide +kernel
theorem dX8_in_0 : decode cX8_in 0 = .ok (.iload_n 0, 1) := by decide +kernel
theorem dX8_in_1 : decode cX8_in 1 = .ok (.iload_n 1, 1) := by decide +kernel
theorem dX8_in_2 : decode cX8_in 2 = .ok (.if_icmp .lt 12, 3) := by decide +kernel
theorem dX8_in_5 : decode cX8_in 5 = .ok (.iload_n 0, 1) := by decide +kernel
theorem dX8_in_6 : decode cX8_in 6 = .ok (.iload_n 2, 1) := by decide +kernel
theorem dX8_in_7 : decode cX8_in 7 = .ok (.if_icmp .gt 7, 3) := by decide +kernel
theorem dX8_in_10 : decode cX8_in 10 = .ok (.iconst 1, 1) := by decide +kernel
theorem dX8_in_11 : decode cX8_in 11 = .ok (.goto 4, 3) := by decide +kernel
theorem dX8_in_14 : decode cX8_in 14 = .ok (.iconst 0, 1) := by decide +kernel
theorem dX8_in_15 : decode cX8_in 15 = .ok (.ireturn, 1) := by decide +kernel
theorem dX8_isCell_0 : decode cX8_isCell 0 = .ok (.iload_n 1, 1) := by decide +kernel
theorem dX8_isCell_1 : decode cX8_isCell 1 = .ok (.iconst 0, 1) := by decide +kernel
theorem dX8_isCell_2 : decode cX8_isCell 2 = .ok (.aload_n 0, 1) := by decide +kernel
theorem dX8_isCell_3 : decode cX8_isCell 3 = .ok (.getfield 7, 3) := by decide +kernel
theorem dX8_isCell_6 : decode cX8_isCell 6 = .ok (.iconst 0, 1) := by decide +kernel
theorem dX8_isCell_7 : decode cX8_isCell 7 = .ok (.iaload, 1) := by decide +kernel
theorem dX8_isCell_8 : decode cX8_isCell 8 = .ok (.iconst 1, 1) := by decide +kernel
theorem dX8_isCell_9 : decode cX8_isCell 9 = .ok (.isub, 1) := by decide +kernel
theorem dX8_isCell_10 : decode cX8_isCell 10 = .ok (.invokestatic 65, 3) := by decide +kernel
theorem dX8_isCell_13 : decode cX8_isCell 13 = .ok (.ifCond .eq 23, 3) := by decide +kernel
theorem dX8_isCell_16 : decode cX8_isCell 16 = .ok (.iload_n 2, 1) := by decide +kernel
theorem dX8_isCell_17 : decode cX8_isCell 17 = .ok (.iconst 0, 1) := by decide +kernel
theorem dX8_isCell_18 : decode cX8_isCell 18 = .ok (.aload_n 0, 1) := by decide +kernel
theorem dX8_isCell_19 : decode cX8_isCell 19 = .ok (.getfield 7, 3) := by decide +kernel
theorem dX8_isCell_22 : decode cX8_isCell 22 = .ok (.iconst 1, 1) := by decide +kernel
theorem dX8_isCell_23 : decode cX8_isCell 23 = .ok (.iaload, 1) := by decide +kernel
theorem dX8_isCell_24 : decode cX8_isCell 24 = .ok (.iconst 1, 1) := by decide +kernel
theorem dX8_isCell_25 : decode cX8_isCell 25 = .ok (.isub, 1) := by decide +kernel
theorem dX8_isCell_26 : decode cX8_isCell 26 = .ok (.invokestatic 65, 3) := by decide +kernel
theorem dX8_isCell_29 : decode cX8_isCell 29 = .ok (.ifCond .eq 7, 3) := by decide +kernel
theorem dX8_isCell_32 : decode cX8_isCell 32 = .ok (.iconst 1, 1) := by decide +kernel
theorem dX8_isCell_33 : decode cX8_isCell 33 = .ok (.goto 4, 3) := by decide +kernel
theorem dX8_isCell_36 : decode cX8_isCell 36 = .ok (.iconst 0, 1) := by decide +kernel
theorem dX8_isCell_37 : decode cX8_isCell 37 = .ok (.ireturn, 1) := by decide +kernel
theorem dX8_save_0 : decode cX8_save 0 = .ok (.aload_n 0, 1) := by decide +kernel
theorem dX8_save_1 : decode cX8_save 1 = .ok (.getfield 69, 3) := by decide +kernel
theorem dX8_save_4 : decode cX8_save 4 = .ok (.bipush 8, 2) := by decide +kernel
theorem dX8_save_6 : decode cX8_save 6 = .ok (.if_icmp .ne 44, 3) := by decide +kernel
theorem dX8_save_9 : decode cX8_save 9 = .ok (.iconst 0, 1) := by decide +kernel
theorem dX8_save_10 : decode cX8_save 10 = .ok (.istore_n 1, 1) := by decide +kernel
theorem dX8_save_11 : decode cX8_save 11 = .ok (.iload_n 1, 1) := by decide +kernel
theorem dX8_save_12 : decode cX8_save 12 = .ok (.sipush 1057, 3) := by decide +kernel
theorem dX8_save_15 : decode cX8_save 15 = .ok (.if_icmp .ge 25, 3) := by decide +kernel
theorem dX8_save_18 : decode cX8_save 18 = .ok (.aload_n 0, 1) := by decide +kernel
theorem dX8_save_19 : decode cX8_save 19 = .ok (.getfield 13, 3) := by decide +kernel
theorem dX8_save_22 : decode cX8_save 22 = .ok (.iload_n 1, 1) := by decide +kernel
theorem dX8_save_23 : decode cX8_save 23 = .ok (.aload_n 0, 1) := by decide +kernel
theorem dX8_save_24 : decode cX8_save 24 = .ok (.getfield 13, 3) := by decide +kernel
theorem dX8_save_27 : decode cX8_save 27 = .ok (.iload_n 1, 1) := by decide +kernel
theorem dX8_save_28 : decode cX8_save 28 = .ok (.sipush 151, 3) := by decide +kernel
theorem dX8_save_31 : decode cX8_save 31 = .ok (.iadd, 1) := by decide +kernel
theorem dX8_save_32 : decode cX8_save 32 = .ok (.iaload, 1) := by decide +kernel
theorem dX8_save_33 : decode cX8_save 33 = .ok (.iastore, 1) := by decide +kernel
theorem dX8_save_34 : decode cX8_save 34 = .ok (.iinc 1 1, 3) := by decide +kernel
theorem dX8_save_37 : decode cX8_save 37 = .ok (.goto (-26), 3) := by decide +kernel
theorem dX8_save_40 : decode cX8_save 40 = .ok (.aload_n 0, 1) := by decide +kernel
theorem dX8_save_41 : decode cX8_save 41 = .ok (.dup, 1) := by decide +kernel
theorem dX8_save_42 : decode cX8_save 42 = .ok (.getfield 69, 3) := by decide +kernel
theorem dX8_save_45 : decode cX8_save 45 = .ok (.iconst 1, 1) := by decide +kernel
theorem dX8_save_46 : decode cX8_save 46 = .ok (.isub, 1) := by decide +kernel
theorem dX8_save_47 : decode cX8_save 47 = .ok (.putfield 69, 3) := by decide +kernel
theorem dX8_save_50 : decode cX8_save 50 = .ok (.iconst 0, 1) := by decide +kernel
theorem dX8_save_51 : decode cX8_save 51 = .ok (.istore_n 1, 1) := by decide +kernel
theorem dX8_save_52 : decode cX8_save 52 = .ok (.iload_n 1, 1) := by decide +kernel
theorem dX8_save_53 : decode cX8_save 53 = .ok (.sipush 151, 3) := by decide +kernel
theorem dX8_save_56 : decode cX8_save 56 = .ok (.if_icmp .ge 30, 3) := by decide +kernel
theorem dX8_save_59 : decode cX8_save 59 = .ok (.aload_n 0, 1) := by decide +kernel
theorem dX8_save_60 : decode cX8_save 60 = .ok (.getfield 13, 3) := by decide +kernel
theorem dX8_save_63 : decode cX8_save 63 = .ok (.sipush 151, 3) := by decide +kernel
theorem dX8_save_66 : decode cX8_save 66 = .ok (.aload_n 0, 1) := by decide +kernel
theorem dX8_save_67 : decode cX8_save 67 = .ok (.getfield 69, 3) := by decide +kernel
theorem dX8_save_70 : decode cX8_save 70 = .ok (.imul, 1) := by decide +kernel
theorem dX8_save_71 : decode cX8_save 71 = .ok (.iload_n 1, 1) := by decide +kernel
theorem dX8_save_72 : decode cX8_save 72 = .ok (.iadd, 1) := by decide +kernel
theorem dX8_save_73 : decode cX8_save 73 = .ok (.aload_n 0, 1) := by decide +kernel
theorem dX8_save_74 : decode cX8_save 74 = .ok (.getfield 7, 3) := by decide +kernel
theorem dX8_save_77 : decode cX8_save 77 = .ok (.iload_n 1, 1) := by decide +kernel
theorem dX8_save_78 : decode cX8_save 78 = .ok (.iaload, 1) := by decide +kernel
theorem dX8_save_79 : decode cX8_save 79 = .ok (.iastore, 1) := by decide +kernel
theorem dX8_save_80 : decode cX8_save 80 = .ok (.iinc 1 1, 3) := by decide +kernel
theorem dX8_save_83 : decode cX8_save 83 = .ok (.goto (-31), 3) := by decide +kernel
theorem dX8_save_86 : decode cX8_save 86 = .ok (.aload_n 0, 1) := by decide +kernel
theorem dX8_save_87 : decode cX8_save 87 = .ok (.dup, 1) := by decide +kernel
theorem dX8_save_88 : decode cX8_save 88 = .ok (.getfield 69, 3) := by decide +kernel
theorem dX8_save_91 : decode cX8_save 91 = .ok (.iconst 1, 1) := by decide +kernel
theorem dX8_save_92 : decode cX8_save 92 = .ok (.iadd, 1) := by decide +kernel
theorem dX8_save_93 : decode cX8_save 93 = .ok (.putfield 69, 3) := by decide +kernel
theorem dX8_save_96 : decode cX8_save 96 = .ok (.return_, 1) := by decide +kernel
theorem dX8_undo_0 : decode cX8_undo 0 = .ok (.aload_n 0, 1) := by decide +kernel
theorem dX8_undo_1 : decode cX8_undo 1 = .ok (.getfield 69, 3) := by decide +kernel
theorem dX8_undo_4 : decode cX8_undo 4 = .ok (.ifCond .ne 6, 3) := by decide +kernel
theorem dX8_undo_7 : decode cX8_undo 7 = .ok (.bipush (-2), 2) := by decide +kernel
theorem dX8_undo_9 : decode cX8_undo 9 = .ok (.ireturn, 1) := by decide +kernel
theorem dX8_undo_10 : decode cX8_undo 10 = .ok (.aload_n 0, 1) := by decide +kernel
theorem dX8_undo_11 : decode cX8_undo 11 = .ok (.dup, 1) := by decide +kernel
theorem dX8_undo_12 : decode cX8_undo 12 = .ok (.getfield 69, 3) := by decide +kernel
theorem dX8_undo_15 : decode cX8_undo 15 = .ok (.iconst 1, 1) := by decide +kernel
theorem dX8_undo_16 : decode cX8_undo 16 = .ok (.isub, 1) := by decide +kernel
theorem dX8_undo_17 : decode cX8_undo 17 = .ok (.putfield 69, 3) := by decide +kernel
theorem dX8_undo_20 : decode cX8_undo 20 = .ok (.iconst 0, 1) := by decide +kernel
theorem dX8_undo_21 : decode cX8_undo 21 = .ok (.istore_n 1, 1) := by decide +kernel
theorem dX8_undo_22 : decode cX8_undo 22 = .ok (.iload_n 1, 1) := by decide +kernel
theorem dX8_undo_23 : decode cX8_undo 23 = .ok (.sipush 151, 3) := by decide +kernel
theorem dX8_undo_26 : decode cX8_undo 26 = .ok (.if_icmp .ge 30, 3) := by decide +kernel
theorem dX8_undo_29 : decode cX8_undo 29 = .ok (.aload_n 0, 1) := by decide +kernel
theorem dX8_undo_30 : decode cX8_undo 30 = .ok (.getfield 7, 3) := by decide +kernel
theorem dX8_undo_33 : decode cX8_undo 33 = .ok (.iload_n 1, 1) := by decide +kernel
theorem dX8_undo_34 : decode cX8_undo 34 = .ok (.aload_n 0, 1) := by decide +kernel
theorem dX8_undo_35 : decode cX8_undo 35 = .ok (.getfield 13, 3) := by decide +kernel
theorem dX8_undo_38 : decode cX8_undo 38 = .ok (.sipush 151, 3) := by decide +kernel
theorem dX8_undo_41 : decode cX8_undo 41 = .ok (.aload_n 0, 1) := by decide +kernel
theorem dX8_undo_42 : decode cX8_undo 42 = .ok (.getfield 69, 3) := by decide +kernel
theorem dX8_undo_45 : decode cX8_undo 45 = .ok (.imul, 1) := by decide +kernel
theorem dX8_undo_46 : decode cX8_undo 46 = .ok (.iload_n 1, 1) := by decide +kernel
theorem dX8_undo_47 : decode cX8_undo 47 = .ok (.iadd, 1) := by decide +kernel
theorem dX8_undo_48 : decode cX8_undo 48 = .ok (.iaload, 1) := by decide +kernel
theorem dX8_undo_49 : decode cX8_undo 49 = .ok (.iastore, 1) := by decide +kernel
theorem dX8_undo_50 : decode cX8_undo 50 = .ok (.iinc 1 1, 3) := by decide +kernel
theorem dX8_undo_53 : decode cX8_undo 53 = .ok (.goto (-31), 3) := by decide +kernel
theorem dX8_undo_56 : decode cX8_undo 56 = .ok (.aload_n 0, 1) := by decide +kernel
theorem dX8_undo_57 : decode cX8_undo 57 = .ok (.getfield 69, 3) := by decide +kernel
theorem dX8_undo_60 : decode cX8_undo 60 = .ok (.ireturn, 1) := by decide +kernel
theorem dX8_changed_0 : decode cX8_changed 0 = .ok (.aload_n 0, 1) := by decide +kernel
theorem dX8_changed_1 : decode cX8_changed 1 = .ok (.invokevirtual 73, 3) := by decide +kernel
theorem dX8_changed_4 : decode cX8_changed 4 = .ok (.aload_n 0, 1) := by decide +kernel
theorem dX8_changed_5 : decode cX8_changed 5 = .ok (.getfield 7, 3) := by decide +kernel
theorem dX8_changed_8 : decode cX8_changed 8 = .ok (.iload_n 1, 1) := by decide +kernel
theorem dX8_changed_9 : decode cX8_changed 9 = .ok (.iaload, 1) := by decide +kernel
theorem dX8_changed_10 : decode cX8_changed 10 = .ok (.istore_n 3, 1) := by decide +kernel
theorem dX8_changed_11 : decode cX8_changed 11 = .ok (.aload_n 0, 1) := by decide +kernel
theorem dX8_changed_12 : decode cX8_changed 12 = .ok (.getfield 7, 3) := by decide +kernel
theorem dX8_changed_15 : decode cX8_changed 15 = .ok (.iload_n 1, 1) := by decide +kernel
theorem dX8_changed_16 : decode cX8_changed 16 = .ok (.iload_n 2, 1) := by decide +kernel
theorem dX8_changed_17 : decode cX8_changed 17 = .ok (.iastore, 1) := by decide +kernel
theorem dX8_changed_18 : decode cX8_changed 18 = .ok (.iload_n 3, 1) := by decide +kernel
theorem dX8_changed_19 : decode cX8_changed 19 = .ok (.ireturn, 1) := by decide +kernel
theorem dX8_appendCharacter_0 : decode cX8_appendCharacter 0 = .ok (.iload_n 1, 1) := by decide +kernel
theorem dX8_appendCharacter_1 : decode cX8_appendCharacter 1 = .ok (.iconst 0, 1) := by decide +kernel
theorem dX8_appendCharacter_2 : decode cX8_appendCharacter 2 = .ok (.sipush 255, 3) := by decide +kernel
theorem dX8_appendCharacter_5 : decode cX8_appendCharacter 5 = .ok (.invokestatic 65, 3) := by decide +kernel
theorem dX8_appendCharacter_8 : decode cX8_appendCharacter 8 = .ok (.ifCond .ne 5, 3) := by decide +kernel
theorem dX8_appendCharacter_11 : decode cX8_appendCharacter 11 = .ok (.iconst (-1), 1) := by decide +kernel
theorem dX8_appendCharacter_12 : decode cX8_appendCharacter 12 = .ok (.ireturn, 1) := by decide +kernel
theorem dX8_appendCharacter_13 : decode cX8_appendCharacter 13 = .ok (.aload_n 0, 1) := by decide +kernel
theorem dX8_appendCharacter_14 : decode cX8_appendCharacter 14 = .ok (.getfield 76, 3) := by decide +kernel
theorem dX8_appendCharacter_17 : decode cX8_appendCharacter 17 = .ok (.bipush 80, 2) := by decide +kernel
theorem dX8_appendCharacter_19 : decode cX8_appendCharacter 19 = .ok (.if_icmp .ne 6, 3) := by decide +kernel
theorem dX8_appendCharacter_22 : decode cX8_appendCharacter 22 = .ok (.bipush (-3), 2) := by decide +kernel
theorem dX8_appendCharacter_24 : decode cX8_appendCharacter 24 = .ok (.ireturn, 1) := by decide +kernel
theorem dX8_appendCharacter_25 : decode cX8_appendCharacter 25 = .ok (.aload_n 0, 1) := by decide +kernel
theorem dX8_appendCharacter_26 : decode cX8_appendCharacter 26 = .ok (.getfield 16, 3) := by decide +kernel
theorem dX8_appendCharacter_29 : decode cX8_appendCharacter 29 = .ok (.aload_n 0, 1) := by decide +kernel
theorem dX8_appendCharacter_30 : decode cX8_appendCharacter 30 = .ok (.getfield 76, 3) := by decide +kernel
theorem dX8_appendCharacter_33 : decode cX8_appendCharacter 33 = .ok (.iload_n 1, 1) := by decide +kernel
theorem dX8_appendCharacter_34 : decode cX8_appendCharacter 34 = .ok (.iastore, 1) := by decide +kernel
theorem dX8_appendCharacter_35 : decode cX8_appendCharacter 35 = .ok (.aload_n 0, 1) := by decide +kernel
theorem dX8_appendCharacter_36 : decode cX8_appendCharacter 36 = .ok (.dup, 1) := by decide +kernel
theorem dX8_appendCharacter_37 : decode cX8_appendCharacter 37 = .ok (.getfield 76, 3) := by decide +kernel
theorem dX8_appendCharacter_40 : decode cX8_appendCharacter 40 = .ok (.iconst 1, 1) := by decide +kernel
theorem dX8_appendCharacter_41 : decode cX8_appendCharacter 41 = .ok (.iadd, 1) := by decide +kernel
theorem dX8_appendCharacter_42 : decode cX8_appendCharacter 42 = .ok (.putfield 76, 3) := by decide +kernel
theorem dX8_appendCharacter_45 : decode cX8_appendCharacter 45 = .ok (.aload_n 0, 1) := by decide +kernel
theorem dX8_appendCharacter_46 : decode cX8_appendCharacter 46 = .ok (.getfield 76, 3) := by decide +kernel
theorem dX8_appendCharacter_49 : decode cX8_appendCharacter 49 = .ok (.ireturn, 1) := by decide +kernel
theorem dX8_clearText_0 : decode cX8_clearText 0 = .ok (.aload_n 0, 1) := by decide +kernel
theorem dX8_clearText_1 : decode cX8_clearText 1 = .ok (.getfield 76, 3) := by decide +kernel
theorem dX8_clearText_4 : decode cX8_clearText 4 = .ok (.istore_n 1, 1) := by decide +kernel
theorem dX8_clearText_5 : decode cX8_clearText 5 = .ok (.aload_n 0, 1) := by decide +kernel
theorem dX8_clearText_6 : decode cX8_clearText 6 = .ok (.iconst 0, 1) := by decide +kernel
theorem dX8_clearText_7 : decode cX8_clearText 7 = .ok (.putfield 76, 3) := by decide +kernel
theorem dX8_clearText_10 : decode cX8_clearText 10 = .ok (.iload_n 1, 1) := by decide +kernel
theorem dX8_clearText_11 : decode cX8_clearText 11 = .ok (.ireturn, 1) := by decide +kernel
theorem dX8_reads_0 : decode cX8_reads 0 = .ok (.aload_n 0, 1) := by decide +kernel
theorem dX8_reads_1 : decode cX8_reads 1 = .ok (.iconst 0, 1) := by decide +kernel
theorem dX8_reads_2 : decode cX8_reads 2 = .ok (.putfield 79, 3) := by decide +kernel
theorem dX8_reads_5 : decode cX8_reads 5 = .ok (.aload_n 0, 1) := by decide +kernel
theorem dX8_reads_6 : decode cX8_reads 6 = .ok (.iconst 0, 1) := by decide +kernel
theorem dX8_reads_7 : decode cX8_reads 7 = .ok (.putfield 82, 3) := by decide +kernel
theorem dX8_reads_10 : decode cX8_reads 10 = .ok (.iconst 0, 1) := by decide +kernel
theorem dX8_reads_11 : decode cX8_reads 11 = .ok (.istore_n 1, 1) := by decide +kernel
theorem dX8_reads_12 : decode cX8_reads 12 = .ok (.iconst 0, 1) := by decide +kernel
theorem dX8_reads_13 : decode cX8_reads 13 = .ok (.istore_n 2, 1) := by decide +kernel
theorem dX8_reads_14 : decode cX8_reads 14 = .ok (.iload_n 2, 1) := by decide +kernel
theorem dX8_reads_15 : decode cX8_reads 15 = .ok (.aload_n 0, 1) := by decide +kernel
theorem dX8_reads_16 : decode cX8_reads 16 = .ok (.getfield 76, 3) := by decide +kernel
theorem dX8_reads_19 : decode cX8_reads 19 = .ok (.if_icmp .ge 140, 3) := by decide +kernel
theorem dX8_reads_22 : decode cX8_reads 22 = .ok (.aload_n 0, 1) := by decide +kernel
theorem dX8_reads_23 : decode cX8_reads 23 = .ok (.getfield 16, 3) := by decide +kernel
theorem dX8_reads_26 : decode cX8_reads 26 = .ok (.iload_n 2, 1) := by decide +kernel
theorem dX8_reads_27 : decode cX8_reads 27 = .ok (.iaload, 1) := by decide +kernel
theorem dX8_reads_28 : decode cX8_reads 28 = .ok (.istore_n 3, 1) := by decide +kernel
theorem dX8_reads_29 : decode cX8_reads 29 = .ok (.aload_n 0, 1) := by decide +kernel
theorem dX8_reads_30 : decode cX8_reads 30 = .ok (.getfield 79, 3) := by decide +kernel
theorem dX8_reads_33 : decode cX8_reads 33 = .ok (.ifCond .ne 8, 3) := by decide +kernel
theorem dX8_reads_36 : decode cX8_reads 36 = .ok (.bipush 7, 2) := by decide +kernel
theorem dX8_reads_38 : decode cX8_reads 38 = .ok (.goto 7, 3) := by decide +kernel
theorem dX8_reads_41 : decode cX8_reads 41 = .ok (.aload_n 0, 1) := by decide +kernel
theorem dX8_reads_42 : decode cX8_reads 42 = .ok (.getfield 82, 3) := by decide +kernel
theorem dX8_reads_45 : decode cX8_reads 45 = .ok (.istore 4, 2) := by decide +kernel
theorem dX8_reads_47 : decode cX8_reads 47 = .ok (.iload_n 3, 1) := by decide +kernel
theorem dX8_reads_48 : decode cX8_reads 48 = .ok (.bipush 32, 2) := by decide +kernel
theorem dX8_reads_50 : decode cX8_reads 50 = .ok (.if_icmp .ne 6, 3) := by decide +kernel
theorem dX8_reads_53 : decode cX8_reads 53 = .ok (.goto 100, 3) := by decide +kernel
theorem dX8_reads_56 : decode cX8_reads 56 = .ok (.iload_n 3, 1) := by decide +kernel
theorem dX8_reads_57 : decode cX8_reads 57 = .ok (.bipush 48, 2) := by decide +kernel
theorem dX8_reads_59 : decode cX8_reads 59 = .ok (.bipush 53, 2) := by decide +kernel
theorem dX8_reads_61 : decode cX8_reads 61 = .ok (.invokestatic 65, 3) := by decide +kernel
theorem dX8_reads_64 : decode cX8_reads 64 = .ok (.ifCond .eq 42, 3) := by decide +kernel
theorem dX8_reads_67 : decode cX8_reads 67 = .ok (.aload_n 0, 1) := by decide +kernel
theorem dX8_reads_68 : decode cX8_reads 68 = .ok (.getfield 79, 3) := by decide +kernel
theorem dX8_reads_71 : decode cX8_reads 71 = .ok (.bipush 7, 2) := by decide +kernel
theorem dX8_reads_73 : decode cX8_reads 73 = .ok (.if_icmp .ge 33, 3) := by decide +kernel
theorem dX8_reads_76 : decode cX8_reads 76 = .ok (.iload_n 1, 1) := by decide +kernel
theorem dX8_reads_77 : decode cX8_reads 77 = .ok (.iload 4, 2) := by decide +kernel
theorem dX8_reads_79 : decode cX8_reads 79 = .ok (.if_icmp .ge 27, 3) := by decide +kernel
theorem dX8_reads_82 : decode cX8_reads 82 = .ok (.aload_n 0, 1) := by decide +kernel
theorem dX8_reads_83 : decode cX8_reads 83 = .ok (.getfield 19, 3) := by decide +kernel
theorem dX8_reads_86 : decode cX8_reads 86 = .ok (.bipush 7, 2) := by decide +kernel
theorem dX8_reads_88 : decode cX8_reads 88 = .ok (.aload_n 0, 1) := by decide +kernel
theorem dX8_reads_89 : decode cX8_reads 89 = .ok (.getfield 79, 3) := by decide +kernel
theorem dX8_reads_92 : decode cX8_reads 92 = .ok (.imul, 1) := by decide +kernel
theorem dX8_reads_93 : decode cX8_reads 93 = .ok (.iload_n 1, 1) := by decide +kernel
theorem dX8_reads_94 : decode cX8_reads 94 = .ok (.iadd, 1) := by decide +kernel
theorem dX8_reads_95 : decode cX8_reads 95 = .ok (.iload_n 3, 1) := by decide +kernel
theorem dX8_reads_96 : decode cX8_reads 96 = .ok (.bipush 48, 2) := by decide +kernel
theorem dX8_reads_98 : decode cX8_reads 98 = .ok (.isub, 1) := by decide +kernel
theorem dX8_reads_99 : decode cX8_reads 99 = .ok (.iastore, 1) := by decide +kernel
theorem dX8_reads_100 : decode cX8_reads 100 = .ok (.iinc 1 1, 3) := by decide +kernel
theorem dX8_reads_103 : decode cX8_reads 103 = .ok (.goto 50, 3) := by decide +kernel
theorem dX8_reads_106 : decode cX8_reads 106 = .ok (.iload_n 3, 1) := by decide +kernel
theorem dX8_reads_107 : decode cX8_reads 107 = .ok (.bipush 59, 2) := by decide +kernel
theorem dX8_reads_109 : decode cX8_reads 109 = .ok (.if_icmp .ne 42, 3) := by decide +kernel
theorem dX8_reads_112 : decode cX8_reads 112 = .ok (.iload_n 1, 1) := by decide +kernel
theorem dX8_reads_113 : decode cX8_reads 113 = .ok (.ifCond .le 38, 3) := by decide +kernel
theorem dX8_reads_116 : decode cX8_reads 116 = .ok (.aload_n 0, 1) := by decide +kernel
theorem dX8_reads_117 : decode cX8_reads 117 = .ok (.getfield 79, 3) := by decide +kernel
theorem dX8_reads_120 : decode cX8_reads 120 = .ok (.ifCond .eq 11, 3) := by decide +kernel
theorem dX8_reads_123 : decode cX8_reads 123 = .ok (.iload_n 1, 1) := by decide +kernel
theorem dX8_reads_124 : decode cX8_reads 124 = .ok (.aload_n 0, 1) := by decide +kernel
theorem dX8_reads_125 : decode cX8_reads 125 = .ok (.getfield 82, 3) := by decide +kernel
theorem dX8_reads_128 : decode cX8_reads 128 = .ok (.if_icmp .ne 23, 3) := by decide +kernel
theorem dX8_reads_131 : decode cX8_reads 131 = .ok (.aload_n 0, 1) := by decide +kernel
theorem dX8_reads_132 : decode cX8_reads 132 = .ok (.iload_n 1, 1) := by decide +kernel
theorem dX8_reads_133 : decode cX8_reads 133 = .ok (.putfield 82, 3) := by decide +kernel
theorem dX8_reads_136 : decode cX8_reads 136 = .ok (.aload_n 0, 1) := by decide +kernel
theorem dX8_reads_137 : decode cX8_reads 137 = .ok (.dup, 1) := by decide +kernel
theorem dX8_reads_138 : decode cX8_reads 138 = .ok (.getfield 79, 3) := by decide +kernel
theorem dX8_reads_141 : decode cX8_reads 141 = .ok (.iconst 1, 1) := by decide +kernel
theorem dX8_reads_142 : decode cX8_reads 142 = .ok (.iadd, 1) := by decide +kernel
theorem dX8_reads_143 : decode cX8_reads 143 = .ok (.putfield 79, 3) := by decide +kernel
theorem dX8_reads_146 : decode cX8_reads 146 = .ok (.iconst 0, 1) := by decide +kernel
theorem dX8_reads_147 : decode cX8_reads 147 = .ok (.istore_n 1, 1) := by decide +kernel
theorem dX8_reads_148 : decode cX8_reads 148 = .ok (.goto 5, 3) := by decide +kernel
theorem dX8_reads_151 : decode cX8_reads 151 = .ok (.iload_n 2, 1) := by decide +kernel
theorem dX8_reads_152 : decode cX8_reads 152 = .ok (.ireturn, 1) := by decide +kernel
theorem dX8_reads_153 : decode cX8_reads 153 = .ok (.iinc 2 1, 3) := by decide +kernel
theorem dX8_reads_156 : decode cX8_reads 156 = .ok (.goto (-142), 3) := by decide +kernel
theorem dX8_reads_159 : decode cX8_reads 159 = .ok (.aload_n 0, 1) := by decide +kernel
theorem dX8_reads_160 : decode cX8_reads 160 = .ok (.getfield 79, 3) := by decide +kernel
theorem dX8_reads_163 : decode cX8_reads 163 = .ok (.ifCond .eq 7, 3) := by decide +kernel
theorem dX8_reads_166 : decode cX8_reads 166 = .ok (.iload_n 1, 1) := by decide +kernel
theorem dX8_reads_167 : decode cX8_reads 167 = .ok (.ifCond .le 10, 3) := by decide +kernel
theorem dX8_reads_170 : decode cX8_reads 170 = .ok (.aload_n 0, 1) := by decide +kernel
theorem dX8_reads_171 : decode cX8_reads 171 = .ok (.getfield 76, 3) := by decide +kernel
theorem dX8_reads_174 : decode cX8_reads 174 = .ok (.goto 4, 3) := by decide +kernel
theorem dX8_reads_177 : decode cX8_reads 177 = .ok (.iconst (-1), 1) := by decide +kernel
theorem dX8_reads_178 : decode cX8_reads 178 = .ok (.ireturn, 1) := by decide +kernel
theorem dX8_loadDrawing_0 : decode cX8_loadDrawing 0 = .ok (.aload_n 0, 1) := by decide +kernel
theorem dX8_loadDrawing_1 : decode cX8_loadDrawing 1 = .ok (.invokevirtual 85, 3) := by decide +kernel
theorem dX8_loadDrawing_4 : decode cX8_loadDrawing 4 = .ok (.istore_n 1, 1) := by decide +kernel
theorem dX8_loadDrawing_5 : decode cX8_loadDrawing 5 = .ok (.iload_n 1, 1) := by decide +kernel
theorem dX8_loadDrawing_6 : decode cX8_loadDrawing 6 = .ok (.iconst (-1), 1) := by decide +kernel
theorem dX8_loadDrawing_7 : decode cX8_loadDrawing 7 = .ok (.if_icmp .eq 8, 3) := by decide +kernel
theorem dX8_loadDrawing_10 : decode cX8_loadDrawing 10 = .ok (.bipush (-10), 2) := by decide +kernel
theorem dX8_loadDrawing_12 : decode cX8_loadDrawing 12 = .ok (.iload_n 1, 1) := by decide +kernel
theorem dX8_loadDrawing_13 : decode cX8_loadDrawing 13 = .ok (.isub, 1) := by decide +kernel
theorem dX8_loadDrawing_14 : decode cX8_loadDrawing 14 = .ok (.ireturn, 1) := by decide +kernel
theorem dX8_loadDrawing_15 : decode cX8_loadDrawing 15 = .ok (.aload_n 0, 1) := by decide +kernel
theorem dX8_loadDrawing_16 : decode cX8_loadDrawing 16 = .ok (.invokevirtual 73, 3) := by decide +kernel
theorem dX8_loadDrawing_19 : decode cX8_loadDrawing 19 = .ok (.aload_n 0, 1) := by decide +kernel
theorem dX8_loadDrawing_20 : decode cX8_loadDrawing 20 = .ok (.getfield 7, 3) := by decide +kernel
theorem dX8_loadDrawing_23 : decode cX8_loadDrawing 23 = .ok (.iconst 0, 1) := by decide +kernel
theorem dX8_loadDrawing_24 : decode cX8_loadDrawing 24 = .ok (.aload_n 0, 1) := by decide +kernel
theorem dX8_loadDrawing_25 : decode cX8_loadDrawing 25 = .ok (.getfield 79, 3) := by decide +kernel
theorem dX8_loadDrawing_28 : decode cX8_loadDrawing 28 = .ok (.iastore, 1) := by decide +kernel
theorem dX8_loadDrawing_29 : decode cX8_loadDrawing 29 = .ok (.aload_n 0, 1) := by decide +kernel
theorem dX8_loadDrawing_30 : decode cX8_loadDrawing 30 = .ok (.getfield 7, 3) := by decide +kernel
theorem dX8_loadDrawing_33 : decode cX8_loadDrawing 33 = .ok (.iconst 1, 1) := by decide +kernel
theorem dX8_loadDrawing_34 : decode cX8_loadDrawing 34 = .ok (.aload_n 0, 1) := by decide +kernel
theorem dX8_loadDrawing_35 : decode cX8_loadDrawing 35 = .ok (.getfield 82, 3) := by decide +kernel
theorem dX8_loadDrawing_38 : decode cX8_loadDrawing 38 = .ok (.iastore, 1) := by decide +kernel
theorem dX8_loadDrawing_39 : decode cX8_loadDrawing 39 = .ok (.iconst 0, 1) := by decide +kernel
theorem dX8_loadDrawing_40 : decode cX8_loadDrawing 40 = .ok (.istore_n 2, 1) := by decide +kernel
theorem dX8_loadDrawing_41 : decode cX8_loadDrawing 41 = .ok (.iload_n 2, 1) := by decide +kernel
theorem dX8_loadDrawing_42 : decode cX8_loadDrawing 42 = .ok (.bipush 49, 2) := by decide +kernel
theorem dX8_loadDrawing_44 : decode cX8_loadDrawing 44 = .ok (.if_icmp .ge 79, 3) := by decide +kernel
theorem dX8_loadDrawing_47 : decode cX8_loadDrawing 47 = .ok (.iload_n 2, 1) := by decide +kernel
theorem dX8_loadDrawing_48 : decode cX8_loadDrawing 48 = .ok (.bipush 7, 2) := by decide +kernel
theorem dX8_loadDrawing_50 : decode cX8_loadDrawing 50 = .ok (.idiv, 1) := by decide +kernel
theorem dX8_loadDrawing_51 : decode cX8_loadDrawing 51 = .ok (.aload_n 0, 1) := by decide +kernel
theorem dX8_loadDrawing_52 : decode cX8_loadDrawing 52 = .ok (.getfield 79, 3) := by decide +kernel
theorem dX8_loadDrawing_55 : decode cX8_loadDrawing 55 = .ok (.if_icmp .ge 18, 3) := by decide +kernel
theorem dX8_loadDrawing_58 : decode cX8_loadDrawing 58 = .ok (.iload_n 2, 1) := by decide +kernel
theorem dX8_loadDrawing_59 : decode cX8_loadDrawing 59 = .ok (.bipush 7, 2) := by decide +kernel
theorem dX8_loadDrawing_61 : decode cX8_loadDrawing 61 = .ok (.irem, 1) := by decide +kernel
theorem dX8_loadDrawing_62 : decode cX8_loadDrawing 62 = .ok (.aload_n 0, 1) := by decide +kernel
theorem dX8_loadDrawing_63 : decode cX8_loadDrawing 63 = .ok (.getfield 82, 3) := by decide +kernel
theorem dX8_loadDrawing_66 : decode cX8_loadDrawing 66 = .ok (.if_icmp .ge 7, 3) := by decide +kernel
theorem dX8_loadDrawing_69 : decode cX8_loadDrawing 69 = .ok (.iconst 1, 1) := by decide +kernel
theorem dX8_loadDrawing_70 : decode cX8_loadDrawing 70 = .ok (.goto 4, 3) := by decide +kernel
theorem dX8_loadDrawing_73 : decode cX8_loadDrawing 73 = .ok (.iconst 0, 1) := by decide +kernel
theorem dX8_loadDrawing_74 : decode cX8_loadDrawing 74 = .ok (.istore_n 3, 1) := by decide +kernel
theorem dX8_loadDrawing_75 : decode cX8_loadDrawing 75 = .ok (.aload_n 0, 1) := by decide +kernel
theorem dX8_loadDrawing_76 : decode cX8_loadDrawing 76 = .ok (.getfield 7, 3) := by decide +kernel
theorem dX8_loadDrawing_79 : decode cX8_loadDrawing 79 = .ok (.iconst 4, 1) := by decide +kernel
theorem dX8_loadDrawing_80 : decode cX8_loadDrawing 80 = .ok (.iload_n 2, 1) := by decide +kernel
theorem dX8_loadDrawing_81 : decode cX8_loadDrawing 81 = .ok (.iadd, 1) := by decide +kernel
theorem dX8_loadDrawing_82 : decode cX8_loadDrawing 82 = .ok (.iload_n 3, 1) := by decide +kernel
theorem dX8_loadDrawing_83 : decode cX8_loadDrawing 83 = .ok (.ifCond .eq 12, 3) := by decide +kernel
theorem dX8_loadDrawing_86 : decode cX8_loadDrawing 86 = .ok (.aload_n 0, 1) := by decide +kernel
theorem dX8_loadDrawing_87 : decode cX8_loadDrawing 87 = .ok (.getfield 19, 3) := by decide +kernel
theorem dX8_loadDrawing_90 : decode cX8_loadDrawing 90 = .ok (.iload_n 2, 1) := by decide +kernel
theorem dX8_loadDrawing_91 : decode cX8_loadDrawing 91 = .ok (.iaload, 1) := by decide +kernel
theorem dX8_loadDrawing_92 : decode cX8_loadDrawing 92 = .ok (.goto 4, 3) := by decide +kernel
theorem dX8_loadDrawing_95 : decode cX8_loadDrawing 95 = .ok (.iconst 0, 1) := by decide +kernel
theorem dX8_loadDrawing_96 : decode cX8_loadDrawing 96 = .ok (.iastore, 1) := by decide +kernel
theorem dX8_loadDrawing_97 : decode cX8_loadDrawing 97 = .ok (.aload_n 0, 1) := by decide +kernel
theorem dX8_loadDrawing_98 : decode cX8_loadDrawing 98 = .ok (.getfield 7, 3) := by decide +kernel
theorem dX8_loadDrawing_101 : decode cX8_loadDrawing 101 = .ok (.bipush 53, 2) := by decide +kernel
theorem dX8_loadDrawing_103 : decode cX8_loadDrawing 103 = .ok (.iload_n 2, 1) := by decide +kernel
theorem dX8_loadDrawing_104 : decode cX8_loadDrawing 104 = .ok (.iadd, 1) := by decide +kernel
theorem dX8_loadDrawing_105 : decode cX8_loadDrawing 105 = .ok (.iconst 0, 1) := by decide +kernel
theorem dX8_loadDrawing_106 : decode cX8_loadDrawing 106 = .ok (.iastore, 1) := by decide +kernel
theorem dX8_loadDrawing_107 : decode cX8_loadDrawing 107 = .ok (.aload_n 0, 1) := by decide +kernel
theorem dX8_loadDrawing_108 : decode cX8_loadDrawing 108 = .ok (.getfield 7, 3) := by decide +kernel
theorem dX8_loadDrawing_111 : decode cX8_loadDrawing 111 = .ok (.bipush 102, 2) := by decide +kernel
theorem dX8_loadDrawing_113 : decode cX8_loadDrawing 113 = .ok (.iload_n 2, 1) := by decide +kernel
end
section
theorem dX8_loadDrawing_114 : decode cX8_loadDrawing 114 = .ok (.iadd, 1) := by decide +kernel
theorem dX8_loadDrawing_115 : decode cX8_loadDrawing 115 = .ok (.iconst 0, 1) := by decide +kernel
theorem dX8_loadDrawing_116 : decode cX8_loadDrawing 116 = .ok (.iastore, 1) := by decide +kernel
theorem dX8_loadDrawing_117 : decode cX8_loadDrawing 117 = .ok (.iinc 2 1, 3) := by decide +kernel
theorem dX8_loadDrawing_120 : decode cX8_loadDrawing 120 = .ok (.goto (-79), 3) := by decide +kernel
theorem dX8_loadDrawing_123 : decode cX8_loadDrawing 123 = .ok (.aload_n 0, 1) := by decide +kernel
theorem dX8_loadDrawing_124 : decode cX8_loadDrawing 124 = .ok (.iconst 0, 1) := by decide +kernel
theorem dX8_loadDrawing_125 : decode cX8_loadDrawing 125 = .ok (.putfield 76, 3) := by decide +kernel
theorem dX8_loadDrawing_128 : decode cX8_loadDrawing 128 = .ok (.aload_n 0, 1) := by decide +kernel
theorem dX8_loadDrawing_129 : decode cX8_loadDrawing 129 = .ok (.invokevirtual 89, 3) := by decide +kernel
theorem dX8_loadDrawing_132 : decode cX8_loadDrawing 132 = .ok (.aload_n 0, 1) := by decide +kernel
theorem dX8_loadDrawing_133 : decode cX8_loadDrawing 133 = .ok (.getfield 92, 3) := by decide +kernel
theorem dX8_loadDrawing_136 : decode cX8_loadDrawing 136 = .ok (.ireturn, 1) := by decide +kernel
theorem dX8_setColour_0 : decode cX8_setColour 0 = .ok (.aload_n 0, 1) := by decide +kernel
theorem dX8_setColour_1 : decode cX8_setColour 1 = .ok (.iload_n 1, 1) := by decide +kernel
theorem dX8_setColour_2 : decode cX8_setColour 2 = .ok (.iload_n 2, 1) := by decide +kernel
theorem dX8_setColour_3 : decode cX8_setColour 3 = .ok (.invokevirtual 95, 3) := by decide +kernel
theorem dX8_setColour_6 : decode cX8_setColour 6 = .ok (.ifCond .eq 12, 3) := by decide +kernel
theorem dX8_setColour_9 : decode cX8_setColour 9 = .ok (.iload_n 3, 1) := by decide +kernel
theorem dX8_setColour_10 : decode cX8_setColour 10 = .ok (.iconst 0, 1) := by decide +kernel
theorem dX8_setColour_11 : decode cX8_setColour 11 = .ok (.iconst 5, 1) := by decide +kernel
theorem dX8_setColour_12 : decode cX8_setColour 12 = .ok (.invokestatic 65, 3) := by decide +kernel
theorem dX8_setColour_15 : decode cX8_setColour 15 = .ok (.ifCond .ne 5, 3) := by decide +kernel
theorem dX8_setColour_18 : decode cX8_setColour 18 = .ok (.iconst (-1), 1) := by decide +kernel
theorem dX8_setColour_19 : decode cX8_setColour 19 = .ok (.ireturn, 1) := by decide +kernel
theorem dX8_setColour_20 : decode cX8_setColour 20 = .ok (.iconst 4, 1) := by decide +kernel
theorem dX8_setColour_21 : decode cX8_setColour 21 = .ok (.bipush 7, 2) := by decide +kernel
theorem dX8_setColour_23 : decode cX8_setColour 23 = .ok (.iload_n 1, 1) := by decide +kernel
theorem dX8_setColour_24 : decode cX8_setColour 24 = .ok (.imul, 1) := by decide +kernel
theorem dX8_setColour_25 : decode cX8_setColour 25 = .ok (.iadd, 1) := by decide +kernel
theorem dX8_setColour_26 : decode cX8_setColour 26 = .ok (.iload_n 2, 1) := by decide +kernel
theorem dX8_setColour_27 : decode cX8_setColour 27 = .ok (.iadd, 1) := by decide +kernel
theorem dX8_setColour_28 : decode cX8_setColour 28 = .ok (.istore 4, 2) := by decide +kernel
theorem dX8_setColour_30 : decode cX8_setColour 30 = .ok (.aload_n 0, 1) := by decide +kernel
theorem dX8_setColour_31 : decode cX8_setColour 31 = .ok (.getfield 7, 3) := by decide +kernel
theorem dX8_setColour_34 : decode cX8_setColour 34 = .ok (.iload 4, 2) := by decide +kernel
theorem dX8_setColour_36 : decode cX8_setColour 36 = .ok (.iaload, 1) := by decide +kernel
theorem dX8_setColour_37 : decode cX8_setColour 37 = .ok (.iload_n 3, 1) := by decide +kernel
theorem dX8_setColour_38 : decode cX8_setColour 38 = .ok (.if_icmp .ne 8, 3) := by decide +kernel
theorem dX8_setColour_41 : decode cX8_setColour 41 = .ok (.bipush (-2), 2) := by decide +kernel
theorem dX8_setColour_43 : decode cX8_setColour 43 = .ok (.goto 10, 3) := by decide +kernel
theorem dX8_setColour_46 : decode cX8_setColour 46 = .ok (.aload_n 0, 1) := by decide +kernel
theorem dX8_setColour_47 : decode cX8_setColour 47 = .ok (.iload 4, 2) := by decide +kernel
theorem dX8_setColour_49 : decode cX8_setColour 49 = .ok (.iload_n 3, 1) := by decide +kernel
theorem dX8_setColour_50 : decode cX8_setColour 50 = .ok (.invokevirtual 99, 3) := by decide +kernel
theorem dX8_setColour_53 : decode cX8_setColour 53 = .ok (.ireturn, 1) := by decide +kernel
theorem dX8_rows_0 : decode cX8_rows 0 = .ok (.aload_n 0, 1) := by decide +kernel
theorem dX8_rows_1 : decode cX8_rows 1 = .ok (.getfield 7, 3) := by decide +kernel
theorem dX8_rows_4 : decode cX8_rows 4 = .ok (.iconst 0, 1) := by decide +kernel
theorem dX8_rows_5 : decode cX8_rows 5 = .ok (.iaload, 1) := by decide +kernel
theorem dX8_rows_6 : decode cX8_rows 6 = .ok (.ireturn, 1) := by decide +kernel
theorem dX8_columns_0 : decode cX8_columns 0 = .ok (.aload_n 0, 1) := by decide +kernel
theorem dX8_columns_1 : decode cX8_columns 1 = .ok (.getfield 7, 3) := by decide +kernel
theorem dX8_columns_4 : decode cX8_columns 4 = .ok (.iconst 1, 1) := by decide +kernel
theorem dX8_columns_5 : decode cX8_columns 5 = .ok (.iaload, 1) := by decide +kernel
theorem dX8_columns_6 : decode cX8_columns 6 = .ok (.ireturn, 1) := by decide +kernel
theorem dX8_colourAt_0 : decode cX8_colourAt 0 = .ok (.aload_n 0, 1) := by decide +kernel
theorem dX8_colourAt_1 : decode cX8_colourAt 1 = .ok (.iload_n 1, 1) := by decide +kernel
theorem dX8_colourAt_2 : decode cX8_colourAt 2 = .ok (.iload_n 2, 1) := by decide +kernel
theorem dX8_colourAt_3 : decode cX8_colourAt 3 = .ok (.invokevirtual 95, 3) := by decide +kernel
theorem dX8_colourAt_6 : decode cX8_colourAt 6 = .ok (.ifCond .eq 19, 3) := by decide +kernel
theorem dX8_colourAt_9 : decode cX8_colourAt 9 = .ok (.aload_n 0, 1) := by decide +kernel
theorem dX8_colourAt_10 : decode cX8_colourAt 10 = .ok (.getfield 7, 3) := by decide +kernel
theorem dX8_colourAt_13 : decode cX8_colourAt 13 = .ok (.iconst 4, 1) := by decide +kernel
theorem dX8_colourAt_14 : decode cX8_colourAt 14 = .ok (.bipush 7, 2) := by decide +kernel
theorem dX8_colourAt_16 : decode cX8_colourAt 16 = .ok (.iload_n 1, 1) := by decide +kernel
theorem dX8_colourAt_17 : decode cX8_colourAt 17 = .ok (.imul, 1) := by decide +kernel
theorem dX8_colourAt_18 : decode cX8_colourAt 18 = .ok (.iadd, 1) := by decide +kernel
theorem dX8_colourAt_19 : decode cX8_colourAt 19 = .ok (.iload_n 2, 1) := by decide +kernel
theorem dX8_colourAt_20 : decode cX8_colourAt 20 = .ok (.iadd, 1) := by decide +kernel
theorem dX8_colourAt_21 : decode cX8_colourAt 21 = .ok (.iaload, 1) := by decide +kernel
theorem dX8_colourAt_22 : decode cX8_colourAt 22 = .ok (.goto 4, 3) := by decide +kernel
theorem dX8_colourAt_25 : decode cX8_colourAt 25 = .ok (.iconst (-1), 1) := by decide +kernel
theorem dX8_colourAt_26 : decode cX8_colourAt 26 = .ok (.ireturn, 1) := by decide +kernel
theorem dX8_hasNext_0 : decode cX8_hasNext 0 = .ok (.iload_n 2, 1) := by decide +kernel
theorem dX8_hasNext_1 : decode cX8_hasNext 1 = .ok (.ifCond .ne 26, 3) := by decide +kernel
theorem dX8_hasNext_4 : decode cX8_hasNext 4 = .ok (.iload_n 1, 1) := by decide +kernel
theorem dX8_hasNext_5 : decode cX8_hasNext 5 = .ok (.bipush 7, 2) := by decide +kernel
theorem dX8_hasNext_7 : decode cX8_hasNext 7 = .ok (.irem, 1) := by decide +kernel
theorem dX8_hasNext_8 : decode cX8_hasNext 8 = .ok (.iconst 1, 1) := by decide +kernel
theorem dX8_hasNext_9 : decode cX8_hasNext 9 = .ok (.iadd, 1) := by decide +kernel
theorem dX8_hasNext_10 : decode cX8_hasNext 10 = .ok (.aload_n 0, 1) := by decide +kernel
theorem dX8_hasNext_11 : decode cX8_hasNext 11 = .ok (.getfield 7, 3) := by decide +kernel
theorem dX8_hasNext_14 : decode cX8_hasNext 14 = .ok (.iconst 1, 1) := by decide +kernel
theorem dX8_hasNext_15 : decode cX8_hasNext 15 = .ok (.iaload, 1) := by decide +kernel
theorem dX8_hasNext_16 : decode cX8_hasNext 16 = .ok (.if_icmp .ge 7, 3) := by decide +kernel
theorem dX8_hasNext_19 : decode cX8_hasNext 19 = .ok (.iconst 1, 1) := by decide +kernel
theorem dX8_hasNext_20 : decode cX8_hasNext 20 = .ok (.goto 27, 3) := by decide +kernel
theorem dX8_hasNext_23 : decode cX8_hasNext 23 = .ok (.iconst 0, 1) := by decide +kernel
theorem dX8_hasNext_24 : decode cX8_hasNext 24 = .ok (.goto 23, 3) := by decide +kernel
theorem dX8_hasNext_27 : decode cX8_hasNext 27 = .ok (.iload_n 1, 1) := by decide +kernel
theorem dX8_hasNext_28 : decode cX8_hasNext 28 = .ok (.bipush 7, 2) := by decide +kernel
theorem dX8_hasNext_30 : decode cX8_hasNext 30 = .ok (.idiv, 1) := by decide +kernel
theorem dX8_hasNext_31 : decode cX8_hasNext 31 = .ok (.iconst 1, 1) := by decide +kernel
theorem dX8_hasNext_32 : decode cX8_hasNext 32 = .ok (.iadd, 1) := by decide +kernel
theorem dX8_hasNext_33 : decode cX8_hasNext 33 = .ok (.aload_n 0, 1) := by decide +kernel
theorem dX8_hasNext_34 : decode cX8_hasNext 34 = .ok (.getfield 7, 3) := by decide +kernel
theorem dX8_hasNext_37 : decode cX8_hasNext 37 = .ok (.iconst 0, 1) := by decide +kernel
theorem dX8_hasNext_38 : decode cX8_hasNext 38 = .ok (.iaload, 1) := by decide +kernel
theorem dX8_hasNext_39 : decode cX8_hasNext 39 = .ok (.if_icmp .ge 7, 3) := by decide +kernel
theorem dX8_hasNext_42 : decode cX8_hasNext 42 = .ok (.iconst 1, 1) := by decide +kernel
theorem dX8_hasNext_43 : decode cX8_hasNext 43 = .ok (.goto 4, 3) := by decide +kernel
theorem dX8_hasNext_46 : decode cX8_hasNext 46 = .ok (.iconst 0, 1) := by decide +kernel
theorem dX8_hasNext_47 : decode cX8_hasNext 47 = .ok (.ireturn, 1) := by decide +kernel
theorem dX8_step_0 : decode cX8_step 0 = .ok (.iload_n 0, 1) := by decide +kernel
theorem dX8_step_1 : decode cX8_step 1 = .ok (.ifCond .ne 7, 3) := by decide +kernel
theorem dX8_step_4 : decode cX8_step 4 = .ok (.iconst 1, 1) := by decide +kernel
theorem dX8_step_5 : decode cX8_step 5 = .ok (.goto 5, 3) := by decide +kernel
theorem dX8_step_8 : decode cX8_step 8 = .ok (.bipush 7, 2) := by decide +kernel
theorem dX8_step_10 : decode cX8_step 10 = .ok (.ireturn, 1) := by decide +kernel
theorem dX8_joins_0 : decode cX8_joins 0 = .ok (.aload_n 0, 1) := by decide +kernel
theorem dX8_joins_1 : decode cX8_joins 1 = .ok (.iload_n 1, 1) := by decide +kernel
theorem dX8_joins_2 : decode cX8_joins 2 = .ok (.iload_n 2, 1) := by decide +kernel
theorem dX8_joins_3 : decode cX8_joins 3 = .ok (.invokevirtual 103, 3) := by decide +kernel
theorem dX8_joins_6 : decode cX8_joins 6 = .ok (.ifCond .eq 48, 3) := by decide +kernel
theorem dX8_joins_9 : decode cX8_joins 9 = .ok (.aload_n 0, 1) := by decide +kernel
theorem dX8_joins_10 : decode cX8_joins 10 = .ok (.getfield 7, 3) := by decide +kernel
theorem dX8_joins_13 : decode cX8_joins 13 = .ok (.iconst 4, 1) := by decide +kernel
theorem dX8_joins_14 : decode cX8_joins 14 = .ok (.iload_n 1, 1) := by decide +kernel
theorem dX8_joins_15 : decode cX8_joins 15 = .ok (.iadd, 1) := by decide +kernel
theorem dX8_joins_16 : decode cX8_joins 16 = .ok (.iaload, 1) := by decide +kernel
theorem dX8_joins_17 : decode cX8_joins 17 = .ok (.aload_n 0, 1) := by decide +kernel
theorem dX8_joins_18 : decode cX8_joins 18 = .ok (.getfield 7, 3) := by decide +kernel
theorem dX8_joins_21 : decode cX8_joins 21 = .ok (.iconst 4, 1) := by decide +kernel
theorem dX8_joins_22 : decode cX8_joins 22 = .ok (.iload_n 1, 1) := by decide +kernel
theorem dX8_joins_23 : decode cX8_joins 23 = .ok (.iadd, 1) := by decide +kernel
theorem dX8_joins_24 : decode cX8_joins 24 = .ok (.iload_n 2, 1) := by decide +kernel
theorem dX8_joins_25 : decode cX8_joins 25 = .ok (.invokestatic 106, 3) := by decide +kernel
theorem dX8_joins_28 : decode cX8_joins 28 = .ok (.iadd, 1) := by decide +kernel
theorem dX8_joins_29 : decode cX8_joins 29 = .ok (.iaload, 1) := by decide +kernel
theorem dX8_joins_30 : decode cX8_joins 30 = .ok (.if_icmp .ne 24, 3) := by decide +kernel
theorem dX8_joins_33 : decode cX8_joins 33 = .ok (.aload_n 0, 1) := by decide +kernel
theorem dX8_joins_34 : decode cX8_joins 34 = .ok (.getfield 7, 3) := by decide +kernel
theorem dX8_joins_37 : decode cX8_joins 37 = .ok (.bipush 53, 2) := by decide +kernel
theorem dX8_joins_39 : decode cX8_joins 39 = .ok (.bipush 49, 2) := by decide +kernel
theorem dX8_joins_41 : decode cX8_joins 41 = .ok (.iload_n 2, 1) := by decide +kernel
theorem dX8_joins_42 : decode cX8_joins 42 = .ok (.imul, 1) := by decide +kernel
theorem dX8_joins_43 : decode cX8_joins 43 = .ok (.iadd, 1) := by decide +kernel
theorem dX8_joins_44 : decode cX8_joins 44 = .ok (.iload_n 1, 1) := by decide +kernel
theorem dX8_joins_45 : decode cX8_joins 45 = .ok (.iadd, 1) := by decide +kernel
theorem dX8_joins_46 : decode cX8_joins 46 = .ok (.iaload, 1) := by decide +kernel
theorem dX8_joins_47 : decode cX8_joins 47 = .ok (.ifCond .ne 7, 3) := by decide +kernel
theorem dX8_joins_50 : decode cX8_joins 50 = .ok (.iconst 1, 1) := by decide +kernel
theorem dX8_joins_51 : decode cX8_joins 51 = .ok (.goto 4, 3) := by decide +kernel
theorem dX8_joins_54 : decode cX8_joins 54 = .ok (.iconst 0, 1) := by decide +kernel
theorem dX8_joins_55 : decode cX8_joins 55 = .ok (.ireturn, 1) := by decide +kernel
theorem dX8_isCut_0 : decode cX8_isCut 0 = .ok (.aload_n 0, 1) := by decide +kernel
theorem dX8_isCut_1 : decode cX8_isCut 1 = .ok (.iload_n 1, 1) := by decide +kernel
theorem dX8_isCut_2 : decode cX8_isCut 2 = .ok (.iload_n 2, 1) := by decide +kernel
theorem dX8_isCut_3 : decode cX8_isCut 3 = .ok (.invokevirtual 95, 3) := by decide +kernel
theorem dX8_isCut_6 : decode cX8_isCut 6 = .ok (.ifCond .eq 30, 3) := by decide +kernel
theorem dX8_isCut_9 : decode cX8_isCut 9 = .ok (.iload_n 3, 1) := by decide +kernel
theorem dX8_isCut_10 : decode cX8_isCut 10 = .ok (.iconst 0, 1) := by decide +kernel
theorem dX8_isCut_11 : decode cX8_isCut 11 = .ok (.iconst 1, 1) := by decide +kernel
theorem dX8_isCut_12 : decode cX8_isCut 12 = .ok (.invokestatic 65, 3) := by decide +kernel
theorem dX8_isCut_15 : decode cX8_isCut 15 = .ok (.ifCond .eq 21, 3) := by decide +kernel
theorem dX8_isCut_18 : decode cX8_isCut 18 = .ok (.aload_n 0, 1) := by decide +kernel
theorem dX8_isCut_19 : decode cX8_isCut 19 = .ok (.bipush 7, 2) := by decide +kernel
theorem dX8_isCut_21 : decode cX8_isCut 21 = .ok (.iload_n 1, 1) := by decide +kernel
theorem dX8_isCut_22 : decode cX8_isCut 22 = .ok (.imul, 1) := by decide +kernel
theorem dX8_isCut_23 : decode cX8_isCut 23 = .ok (.iload_n 2, 1) := by decide +kernel
theorem dX8_isCut_24 : decode cX8_isCut 24 = .ok (.iadd, 1) := by decide +kernel
theorem dX8_isCut_25 : decode cX8_isCut 25 = .ok (.iload_n 3, 1) := by decide +kernel
theorem dX8_isCut_26 : decode cX8_isCut 26 = .ok (.invokevirtual 103, 3) := by decide +kernel
theorem dX8_isCut_29 : decode cX8_isCut 29 = .ok (.ifCond .eq 7, 3) := by decide +kernel
theorem dX8_isCut_32 : decode cX8_isCut 32 = .ok (.iconst 1, 1) := by decide +kernel
theorem dX8_isCut_33 : decode cX8_isCut 33 = .ok (.goto 4, 3) := by decide +kernel
theorem dX8_isCut_36 : decode cX8_isCut 36 = .ok (.iconst 0, 1) := by decide +kernel
theorem dX8_isCut_37 : decode cX8_isCut 37 = .ok (.ireturn, 1) := by decide +kernel
theorem dX8_cuts_0 : decode cX8_cuts 0 = .ok (.iconst 0, 1) := by decide +kernel
theorem dX8_cuts_1 : decode cX8_cuts 1 = .ok (.istore_n 1, 1) := by decide +kernel
theorem dX8_cuts_2 : decode cX8_cuts 2 = .ok (.iconst 0, 1) := by decide +kernel
theorem dX8_cuts_3 : decode cX8_cuts 3 = .ok (.istore_n 2, 1) := by decide +kernel
theorem dX8_cuts_4 : decode cX8_cuts 4 = .ok (.iload_n 2, 1) := by decide +kernel
theorem dX8_cuts_5 : decode cX8_cuts 5 = .ok (.bipush 98, 2) := by decide +kernel
theorem dX8_cuts_7 : decode cX8_cuts 7 = .ok (.if_icmp .ge 21, 3) := by decide +kernel
theorem dX8_cuts_10 : decode cX8_cuts 10 = .ok (.iload_n 1, 1) := by decide +kernel
theorem dX8_cuts_11 : decode cX8_cuts 11 = .ok (.aload_n 0, 1) := by decide +kernel
theorem dX8_cuts_12 : decode cX8_cuts 12 = .ok (.getfield 7, 3) := by decide +kernel
theorem dX8_cuts_15 : decode cX8_cuts 15 = .ok (.bipush 53, 2) := by decide +kernel
theorem dX8_cuts_17 : decode cX8_cuts 17 = .ok (.iload_n 2, 1) := by decide +kernel
theorem dX8_cuts_18 : decode cX8_cuts 18 = .ok (.iadd, 1) := by decide +kernel
theorem dX8_cuts_19 : decode cX8_cuts 19 = .ok (.iaload, 1) := by decide +kernel
theorem dX8_cuts_20 : decode cX8_cuts 20 = .ok (.iadd, 1) := by decide +kernel
theorem dX8_cuts_21 : decode cX8_cuts 21 = .ok (.istore_n 1, 1) := by decide +kernel
theorem dX8_cuts_22 : decode cX8_cuts 22 = .ok (.iinc 2 1, 3) := by decide +kernel
theorem dX8_cuts_25 : decode cX8_cuts 25 = .ok (.goto (-21), 3) := by decide +kernel
theorem dX8_cuts_28 : decode cX8_cuts 28 = .ok (.iload_n 1, 1) := by decide +kernel
theorem dX8_cuts_29 : decode cX8_cuts 29 = .ok (.ireturn, 1) := by decide +kernel
theorem dX8_addCut_0 : decode cX8_addCut 0 = .ok (.aload_n 0, 1) := by decide +kernel
theorem dX8_addCut_1 : decode cX8_addCut 1 = .ok (.iload_n 1, 1) := by decide +kernel
theorem dX8_addCut_2 : decode cX8_addCut 2 = .ok (.iload_n 2, 1) := by decide +kernel
theorem dX8_addCut_3 : decode cX8_addCut 3 = .ok (.iload_n 3, 1) := by decide +kernel
theorem dX8_addCut_4 : decode cX8_addCut 4 = .ok (.invokevirtual 110, 3) := by decide +kernel
theorem dX8_addCut_7 : decode cX8_addCut 7 = .ok (.ifCond .ne 5, 3) := by decide +kernel
theorem dX8_addCut_10 : decode cX8_addCut 10 = .ok (.iconst (-1), 1) := by decide +kernel
theorem dX8_addCut_11 : decode cX8_addCut 11 = .ok (.ireturn, 1) := by decide +kernel
theorem dX8_addCut_12 : decode cX8_addCut 12 = .ok (.bipush 53, 2) := by decide +kernel
theorem dX8_addCut_14 : decode cX8_addCut 14 = .ok (.bipush 49, 2) := by decide +kernel
theorem dX8_addCut_16 : decode cX8_addCut 16 = .ok (.iload_n 3, 1) := by decide +kernel
theorem dX8_addCut_17 : decode cX8_addCut 17 = .ok (.imul, 1) := by decide +kernel
theorem dX8_addCut_18 : decode cX8_addCut 18 = .ok (.iadd, 1) := by decide +kernel
theorem dX8_addCut_19 : decode cX8_addCut 19 = .ok (.bipush 7, 2) := by decide +kernel
theorem dX8_addCut_21 : decode cX8_addCut 21 = .ok (.iload_n 1, 1) := by decide +kernel
theorem dX8_addCut_22 : decode cX8_addCut 22 = .ok (.imul, 1) := by decide +kernel
theorem dX8_addCut_23 : decode cX8_addCut 23 = .ok (.iadd, 1) := by decide +kernel
theorem dX8_addCut_24 : decode cX8_addCut 24 = .ok (.iload_n 2, 1) := by decide +kernel
theorem dX8_addCut_25 : decode cX8_addCut 25 = .ok (.iadd, 1) := by decide +kernel
theorem dX8_addCut_26 : decode cX8_addCut 26 = .ok (.istore 4, 2) := by decide +kernel
theorem dX8_addCut_28 : decode cX8_addCut 28 = .ok (.aload_n 0, 1) := by decide +kernel
theorem dX8_addCut_29 : decode cX8_addCut 29 = .ok (.getfield 7, 3) := by decide +kernel
theorem dX8_addCut_32 : decode cX8_addCut 32 = .ok (.iload 4, 2) := by decide +kernel
theorem dX8_addCut_34 : decode cX8_addCut 34 = .ok (.iaload, 1) := by decide +kernel
theorem dX8_addCut_35 : decode cX8_addCut 35 = .ok (.iconst 1, 1) := by decide +kernel
theorem dX8_addCut_36 : decode cX8_addCut 36 = .ok (.if_icmp .ne 6, 3) := by decide +kernel
theorem dX8_addCut_39 : decode cX8_addCut 39 = .ok (.bipush (-2), 2) := by decide +kernel
theorem dX8_addCut_41 : decode cX8_addCut 41 = .ok (.ireturn, 1) := by decide +kernel
theorem dX8_addCut_42 : decode cX8_addCut 42 = .ok (.aload_n 0, 1) := by decide +kernel
theorem dX8_addCut_43 : decode cX8_addCut 43 = .ok (.iload 4, 2) := by decide +kernel
theorem dX8_addCut_45 : decode cX8_addCut 45 = .ok (.iconst 1, 1) := by decide +kernel
theorem dX8_addCut_46 : decode cX8_addCut 46 = .ok (.invokevirtual 99, 3) := by decide +kernel
theorem dX8_addCut_49 : decode cX8_addCut 49 = .ok (.istore 5, 2) := by decide +kernel
theorem dX8_addCut_51 : decode cX8_addCut 51 = .ok (.aload_n 0, 1) := by decide +kernel
theorem dX8_addCut_52 : decode cX8_addCut 52 = .ok (.invokevirtual 113, 3) := by decide +kernel
theorem dX8_addCut_55 : decode cX8_addCut 55 = .ok (.ireturn, 1) := by decide +kernel
theorem dX8_removeCut_0 : decode cX8_removeCut 0 = .ok (.aload_n 0, 1) := by decide +kernel
theorem dX8_removeCut_1 : decode cX8_removeCut 1 = .ok (.iload_n 1, 1) := by decide +kernel
theorem dX8_removeCut_2 : decode cX8_removeCut 2 = .ok (.iload_n 2, 1) := by decide +kernel
theorem dX8_removeCut_3 : decode cX8_removeCut 3 = .ok (.iload_n 3, 1) := by decide +kernel
theorem dX8_removeCut_4 : decode cX8_removeCut 4 = .ok (.invokevirtual 110, 3) := by decide +kernel
theorem dX8_removeCut_7 : decode cX8_removeCut 7 = .ok (.ifCond .ne 5, 3) := by decide +kernel
theorem dX8_removeCut_10 : decode cX8_removeCut 10 = .ok (.iconst (-1), 1) := by decide +kernel
theorem dX8_removeCut_11 : decode cX8_removeCut 11 = .ok (.ireturn, 1) := by decide +kernel
theorem dX8_removeCut_12 : decode cX8_removeCut 12 = .ok (.bipush 53, 2) := by decide +kernel
theorem dX8_removeCut_14 : decode cX8_removeCut 14 = .ok (.bipush 49, 2) := by decide +kernel
theorem dX8_removeCut_16 : decode cX8_removeCut 16 = .ok (.iload_n 3, 1) := by decide +kernel
theorem dX8_removeCut_17 : decode cX8_removeCut 17 = .ok (.imul, 1) := by decide +kernel
theorem dX8_removeCut_18 : decode cX8_removeCut 18 = .ok (.iadd, 1) := by decide +kernel
theorem dX8_removeCut_19 : decode cX8_removeCut 19 = .ok (.bipush 7, 2) := by decide +kernel
theorem dX8_removeCut_21 : decode cX8_removeCut 21 = .ok (.iload_n 1, 1) := by decide +kernel
theorem dX8_removeCut_22 : decode cX8_removeCut 22 = .ok (.imul, 1) := by decide +kernel
theorem dX8_removeCut_23 : decode cX8_removeCut 23 = .ok (.iadd, 1) := by decide +kernel
theorem dX8_removeCut_24 : decode cX8_removeCut 24 = .ok (.iload_n 2, 1) := by decide +kernel
theorem dX8_removeCut_25 : decode cX8_removeCut 25 = .ok (.iadd, 1) := by decide +kernel
theorem dX8_removeCut_26 : decode cX8_removeCut 26 = .ok (.istore 4, 2) := by decide +kernel
theorem dX8_removeCut_28 : decode cX8_removeCut 28 = .ok (.aload_n 0, 1) := by decide +kernel
theorem dX8_removeCut_29 : decode cX8_removeCut 29 = .ok (.getfield 7, 3) := by decide +kernel
theorem dX8_removeCut_32 : decode cX8_removeCut 32 = .ok (.iload 4, 2) := by decide +kernel
theorem dX8_removeCut_34 : decode cX8_removeCut 34 = .ok (.iaload, 1) := by decide +kernel
theorem dX8_removeCut_35 : decode cX8_removeCut 35 = .ok (.ifCond .ne 6, 3) := by decide +kernel
theorem dX8_removeCut_38 : decode cX8_removeCut 38 = .ok (.bipush (-2), 2) := by decide +kernel
theorem dX8_removeCut_40 : decode cX8_removeCut 40 = .ok (.ireturn, 1) := by decide +kernel
theorem dX8_removeCut_41 : decode cX8_removeCut 41 = .ok (.aload_n 0, 1) := by decide +kernel
theorem dX8_removeCut_42 : decode cX8_removeCut 42 = .ok (.iload 4, 2) := by decide +kernel
theorem dX8_removeCut_44 : decode cX8_removeCut 44 = .ok (.iconst 0, 1) := by decide +kernel
theorem dX8_removeCut_45 : decode cX8_removeCut 45 = .ok (.invokevirtual 99, 3) := by decide +kernel
theorem dX8_removeCut_48 : decode cX8_removeCut 48 = .ok (.istore 5, 2) := by decide +kernel
theorem dX8_removeCut_50 : decode cX8_removeCut 50 = .ok (.aload_n 0, 1) := by decide +kernel
theorem dX8_removeCut_51 : decode cX8_removeCut 51 = .ok (.invokevirtual 113, 3) := by decide +kernel
theorem dX8_removeCut_54 : decode cX8_removeCut 54 = .ok (.ireturn, 1) := by decide +kernel
theorem dX8_spread_0 : decode cX8_spread 0 = .ok (.aload_n 1, 1) := by decide +kernel
theorem dX8_spread_1 : decode cX8_spread 1 = .ok (.iload_n 2, 1) := by decide +kernel
theorem dX8_spread_2 : decode cX8_spread 2 = .ok (.iload_n 3, 1) := by decide +kernel
theorem dX8_spread_3 : decode cX8_spread 3 = .ok (.iastore, 1) := by decide +kernel
theorem dX8_spread_4 : decode cX8_spread 4 = .ok (.aload_n 0, 1) := by decide +kernel
theorem dX8_spread_5 : decode cX8_spread 5 = .ok (.getfield 22, 3) := by decide +kernel
theorem dX8_spread_8 : decode cX8_spread 8 = .ok (.iconst 0, 1) := by decide +kernel
theorem dX8_spread_9 : decode cX8_spread 9 = .ok (.iload_n 2, 1) := by decide +kernel
theorem dX8_spread_10 : decode cX8_spread 10 = .ok (.iastore, 1) := by decide +kernel
theorem dX8_spread_11 : decode cX8_spread 11 = .ok (.iconst 1, 1) := by decide +kernel
theorem dX8_spread_12 : decode cX8_spread 12 = .ok (.istore 4, 2) := by decide +kernel
theorem dX8_spread_14 : decode cX8_spread 14 = .ok (.iconst 0, 1) := by decide +kernel
theorem dX8_spread_15 : decode cX8_spread 15 = .ok (.istore 5, 2) := by decide +kernel
theorem dX8_spread_17 : decode cX8_spread 17 = .ok (.iload 5, 2) := by decide +kernel
theorem dX8_spread_19 : decode cX8_spread 19 = .ok (.iload 4, 2) := by decide +kernel
theorem dX8_spread_21 : decode cX8_spread 21 = .ok (.if_icmp .ge 213, 3) := by decide +kernel
theorem dX8_spread_24 : decode cX8_spread 24 = .ok (.aload_n 0, 1) := by decide +kernel
theorem dX8_spread_25 : decode cX8_spread 25 = .ok (.getfield 22, 3) := by decide +kernel
theorem dX8_spread_28 : decode cX8_spread 28 = .ok (.iload 5, 2) := by decide +kernel
theorem dX8_spread_30 : decode cX8_spread 30 = .ok (.iaload, 1) := by decide +kernel
theorem dX8_spread_31 : decode cX8_spread 31 = .ok (.istore 6, 2) := by decide +kernel
theorem dX8_spread_33 : decode cX8_spread 33 = .ok (.iconst 0, 1) := by decide +kernel
theorem dX8_spread_34 : decode cX8_spread 34 = .ok (.istore 7, 2) := by decide +kernel
theorem dX8_spread_36 : decode cX8_spread 36 = .ok (.iload 7, 2) := by decide +kernel
theorem dX8_spread_38 : decode cX8_spread 38 = .ok (.iconst 4, 1) := by decide +kernel
theorem dX8_spread_39 : decode cX8_spread 39 = .ok (.if_icmp .ge 189, 3) := by decide +kernel
theorem dX8_spread_42 : decode cX8_spread 42 = .ok (.iload 7, 2) := by decide +kernel
theorem dX8_spread_44 : decode cX8_spread 44 = .ok (.iconst 2, 1) := by decide +kernel
theorem dX8_spread_45 : decode cX8_spread 45 = .ok (.irem, 1) := by decide +kernel
theorem dX8_spread_46 : decode cX8_spread 46 = .ok (.istore 8, 2) := by decide +kernel
theorem dX8_spread_48 : decode cX8_spread 48 = .ok (.iload 7, 2) := by decide +kernel
theorem dX8_spread_50 : decode cX8_spread 50 = .ok (.iconst 2, 1) := by decide +kernel
theorem dX8_spread_51 : decode cX8_spread 51 = .ok (.if_icmp .ge 14, 3) := by decide +kernel
theorem dX8_spread_54 : decode cX8_spread 54 = .ok (.iload 6, 2) := by decide +kernel
theorem dX8_spread_56 : decode cX8_spread 56 = .ok (.iload 8, 2) := by decide +kernel
theorem dX8_spread_58 : decode cX8_spread 58 = .ok (.invokestatic 106, 3) := by decide +kernel
theorem dX8_spread_61 : decode cX8_spread 61 = .ok (.iadd, 1) := by decide +kernel
theorem dX8_spread_62 : decode cX8_spread 62 = .ok (.goto 11, 3) := by decide +kernel
theorem dX8_spread_65 : decode cX8_spread 65 = .ok (.iload 6, 2) := by decide +kernel
theorem dX8_spread_67 : decode cX8_spread 67 = .ok (.iload 8, 2) := by decide +kernel
theorem dX8_spread_69 : decode cX8_spread 69 = .ok (.invokestatic 106, 3) := by decide +kernel
theorem dX8_spread_72 : decode cX8_spread 72 = .ok (.isub, 1) := by decide +kernel
theorem dX8_spread_73 : decode cX8_spread 73 = .ok (.istore 9, 2) := by decide +kernel
theorem dX8_spread_75 : decode cX8_spread 75 = .ok (.iload 7, 2) := by decide +kernel
theorem dX8_spread_77 : decode cX8_spread 77 = .ok (.ifCond .ne 23, 3) := by decide +kernel
theorem dX8_spread_80 : decode cX8_spread 80 = .ok (.iload 6, 2) := by decide +kernel
theorem dX8_spread_82 : decode cX8_spread 82 = .ok (.bipush 7, 2) := by decide +kernel
theorem dX8_spread_84 : decode cX8_spread 84 = .ok (.irem, 1) := by decide +kernel
theorem dX8_spread_85 : decode cX8_spread 85 = .ok (.aload_n 0, 1) := by decide +kernel
theorem dX8_spread_86 : decode cX8_spread 86 = .ok (.getfield 116, 3) := by decide +kernel
theorem dX8_spread_89 : decode cX8_spread 89 = .ok (.if_icmp .ge 7, 3) := by decide +kernel
theorem dX8_spread_92 : decode cX8_spread 92 = .ok (.iconst 1, 1) := by decide +kernel
theorem dX8_spread_93 : decode cX8_spread 93 = .ok (.goto 76, 3) := by decide +kernel
theorem dX8_spread_96 : decode cX8_spread 96 = .ok (.iconst 0, 1) := by decide +kernel
theorem dX8_spread_97 : decode cX8_spread 97 = .ok (.goto 72, 3) := by decide +kernel
theorem dX8_spread_100 : decode cX8_spread 100 = .ok (.iload 7, 2) := by decide +kernel
theorem dX8_spread_102 : decode cX8_spread 102 = .ok (.iconst 1, 1) := by decide +kernel
theorem dX8_spread_103 : decode cX8_spread 103 = .ok (.if_icmp .ne 23, 3) := by decide +kernel
theorem dX8_spread_106 : decode cX8_spread 106 = .ok (.iload 6, 2) := by decide +kernel
theorem dX8_spread_108 : decode cX8_spread 108 = .ok (.bipush 7, 2) := by decide +kernel
theorem dX8_spread_110 : decode cX8_spread 110 = .ok (.idiv, 1) := by decide +kernel
theorem dX8_spread_111 : decode cX8_spread 111 = .ok (.aload_n 0, 1) := by decide +kernel
theorem dX8_spread_112 : decode cX8_spread 112 = .ok (.getfield 119, 3) := by decide +kernel
theorem dX8_spread_115 : decode cX8_spread 115 = .ok (.if_icmp .ge 7, 3) := by decide +kernel
theorem dX8_spread_118 : decode cX8_spread 118 = .ok (.iconst 1, 1) := by decide +kernel
theorem dX8_spread_119 : decode cX8_spread 119 = .ok (.goto 50, 3) := by decide +kernel
theorem dX8_spread_122 : decode cX8_spread 122 = .ok (.iconst 0, 1) := by decide +kernel
theorem dX8_spread_123 : decode cX8_spread 123 = .ok (.goto 46, 3) := by decide +kernel
theorem dX8_spread_126 : decode cX8_spread 126 = .ok (.iload 7, 2) := by decide +kernel
theorem dX8_spread_128 : decode cX8_spread 128 = .ok (.iconst 2, 1) := by decide +kernel
theorem dX8_spread_129 : decode cX8_spread 129 = .ok (.if_icmp .ne 23, 3) := by decide +kernel
theorem dX8_spread_132 : decode cX8_spread 132 = .ok (.iload 6, 2) := by decide +kernel
theorem dX8_spread_134 : decode cX8_spread 134 = .ok (.bipush 7, 2) := by decide +kernel
theorem dX8_spread_136 : decode cX8_spread 136 = .ok (.irem, 1) := by decide +kernel
theorem dX8_spread_137 : decode cX8_spread 137 = .ok (.aload_n 0, 1) := by decide +kernel
theorem dX8_spread_138 : decode cX8_spread 138 = .ok (.getfield 122, 3) := by decide +kernel
theorem dX8_spread_141 : decode cX8_spread 141 = .ok (.if_icmp .le 7, 3) := by decide +kernel
theorem dX8_spread_144 : decode cX8_spread 144 = .ok (.iconst 1, 1) := by decide +kernel
theorem dX8_spread_145 : decode cX8_spread 145 = .ok (.goto 24, 3) := by decide +kernel
theorem dX8_spread_148 : decode cX8_spread 148 = .ok (.iconst 0, 1) := by decide +kernel
theorem dX8_spread_149 : decode cX8_spread 149 = .ok (.goto 20, 3) := by decide +kernel
theorem dX8_spread_152 : decode cX8_spread 152 = .ok (.iload 6, 2) := by decide +kernel
theorem dX8_spread_154 : decode cX8_spread 154 = .ok (.bipush 7, 2) := by decide +kernel
theorem dX8_spread_156 : decode cX8_spread 156 = .ok (.idiv, 1) := by decide +kernel
theorem dX8_spread_157 : decode cX8_spread 157 = .ok (.aload_n 0, 1) := by decide +kernel
theorem dX8_spread_158 : decode cX8_spread 158 = .ok (.getfield 125, 3) := by decide +kernel
theorem dX8_spread_161 : decode cX8_spread 161 = .ok (.if_icmp .le 7, 3) := by decide +kernel
theorem dX8_spread_164 : decode cX8_spread 164 = .ok (.iconst 1, 1) := by decide +kernel
theorem dX8_spread_165 : decode cX8_spread 165 = .ok (.goto 4, 3) := by decide +kernel
theorem dX8_spread_168 : decode cX8_spread 168 = .ok (.iconst 0, 1) := by decide +kernel
theorem dX8_spread_169 : decode cX8_spread 169 = .ok (.istore 10, 2) := by decide +kernel
theorem dX8_spread_171 : decode cX8_spread 171 = .ok (.iload 10, 2) := by decide +kernel
theorem dX8_spread_173 : decode cX8_spread 173 = .ok (.ifCond .eq 49, 3) := by decide +kernel
theorem dX8_spread_176 : decode cX8_spread 176 = .ok (.aload_n 0, 1) := by decide +kernel
theorem dX8_spread_177 : decode cX8_spread 177 = .ok (.iload 7, 2) := by decide +kernel
theorem dX8_spread_179 : decode cX8_spread 179 = .ok (.iconst 2, 1) := by decide +kernel
theorem dX8_spread_180 : decode cX8_spread 180 = .ok (.if_icmp .ge 8, 3) := by decide +kernel
theorem dX8_spread_183 : decode cX8_spread 183 = .ok (.iload 6, 2) := by decide +kernel
theorem dX8_spread_185 : decode cX8_spread 185 = .ok (.goto 5, 3) := by decide +kernel
theorem dX8_spread_188 : decode cX8_spread 188 = .ok (.iload 9, 2) := by decide +kernel
theorem dX8_spread_190 : decode cX8_spread 190 = .ok (.iload 8, 2) := by decide +kernel
theorem dX8_spread_192 : decode cX8_spread 192 = .ok (.invokevirtual 128, 3) := by decide +kernel
theorem dX8_spread_195 : decode cX8_spread 195 = .ok (.ifCond .eq 27, 3) := by decide +kernel
theorem dX8_spread_198 : decode cX8_spread 198 = .ok (.aload_n 1, 1) := by decide +kernel
theorem dX8_spread_199 : decode cX8_spread 199 = .ok (.iload 9, 2) := by decide +kernel
theorem dX8_spread_201 : decode cX8_spread 201 = .ok (.iaload, 1) := by decide +kernel
theorem dX8_spread_202 : decode cX8_spread 202 = .ok (.ifCond .ge 20, 3) := by decide +kernel
theorem dX8_spread_205 : decode cX8_spread 205 = .ok (.aload_n 1, 1) := by decide +kernel
theorem dX8_spread_206 : decode cX8_spread 206 = .ok (.iload 9, 2) := by decide +kernel
theorem dX8_spread_208 : decode cX8_spread 208 = .ok (.iload_n 3, 1) := by decide +kernel
theorem dX8_spread_209 : decode cX8_spread 209 = .ok (.iastore, 1) := by decide +kernel
theorem dX8_spread_210 : decode cX8_spread 210 = .ok (.aload_n 0, 1) := by decide +kernel
theorem dX8_spread_211 : decode cX8_spread 211 = .ok (.getfield 22, 3) := by decide +kernel
theorem dX8_spread_214 : decode cX8_spread 214 = .ok (.iload 4, 2) := by decide +kernel
theorem dX8_spread_216 : decode cX8_spread 216 = .ok (.iload 9, 2) := by decide +kernel
theorem dX8_spread_218 : decode cX8_spread 218 = .ok (.iastore, 1) := by decide +kernel
theorem dX8_spread_219 : decode cX8_spread 219 = .ok (.iinc 4 1, 3) := by decide +kernel
theorem dX8_spread_222 : decode cX8_spread 222 = .ok (.iinc 7 1, 3) := by decide +kernel
theorem dX8_spread_225 : decode cX8_spread 225 = .ok (.goto (-189), 3) := by decide +kernel
theorem dX8_spread_228 : decode cX8_spread 228 = .ok (.iinc 5 1, 3) := by decide +kernel
theorem dX8_spread_231 : decode cX8_spread 231 = .ok (.goto (-214), 3) := by decide +kernel
theorem dX8_spread_234 : decode cX8_spread 234 = .ok (.iload 4, 2) := by decide +kernel
theorem dX8_spread_236 : decode cX8_spread 236 = .ok (.ireturn, 1) := by decide +kernel
theorem dX8_wholeDrawing_0 : decode cX8_wholeDrawing 0 = .ok (.aload_n 0, 1) := by decide +kernel
theorem dX8_wholeDrawing_1 : decode cX8_wholeDrawing 1 = .ok (.iconst 0, 1) := by decide +kernel
theorem dX8_wholeDrawing_2 : decode cX8_wholeDrawing 2 = .ok (.putfield 125, 3) := by decide +kernel
theorem dX8_wholeDrawing_5 : decode cX8_wholeDrawing 5 = .ok (.aload_n 0, 1) := by decide +kernel
theorem dX8_wholeDrawing_6 : decode cX8_wholeDrawing 6 = .ok (.aload_n 0, 1) := by decide +kernel
theorem dX8_wholeDrawing_7 : decode cX8_wholeDrawing 7 = .ok (.getfield 7, 3) := by decide +kernel
theorem dX8_wholeDrawing_10 : decode cX8_wholeDrawing 10 = .ok (.iconst 0, 1) := by decide +kernel
theorem dX8_wholeDrawing_11 : decode cX8_wholeDrawing 11 = .ok (.iaload, 1) := by decide +kernel
theorem dX8_wholeDrawing_12 : decode cX8_wholeDrawing 12 = .ok (.iconst 1, 1) := by decide +kernel
theorem dX8_wholeDrawing_13 : decode cX8_wholeDrawing 13 = .ok (.isub, 1) := by decide +kernel
theorem dX8_wholeDrawing_14 : decode cX8_wholeDrawing 14 = .ok (.putfield 119, 3) := by decide +kernel
theorem dX8_wholeDrawing_17 : decode cX8_wholeDrawing 17 = .ok (.aload_n 0, 1) := by decide +kernel
theorem dX8_wholeDrawing_18 : decode cX8_wholeDrawing 18 = .ok (.iconst 0, 1) := by decide +kernel
theorem dX8_wholeDrawing_19 : decode cX8_wholeDrawing 19 = .ok (.putfield 122, 3) := by decide +kernel
theorem dX8_wholeDrawing_22 : decode cX8_wholeDrawing 22 = .ok (.aload_n 0, 1) := by decide +kernel
theorem dX8_wholeDrawing_23 : decode cX8_wholeDrawing 23 = .ok (.aload_n 0, 1) := by decide +kernel
theorem dX8_wholeDrawing_24 : decode cX8_wholeDrawing 24 = .ok (.getfield 7, 3) := by decide +kernel
theorem dX8_wholeDrawing_27 : decode cX8_wholeDrawing 27 = .ok (.iconst 1, 1) := by decide +kernel
theorem dX8_wholeDrawing_28 : decode cX8_wholeDrawing 28 = .ok (.iaload, 1) := by decide +kernel
theorem dX8_wholeDrawing_29 : decode cX8_wholeDrawing 29 = .ok (.iconst 1, 1) := by decide +kernel
theorem dX8_wholeDrawing_30 : decode cX8_wholeDrawing 30 = .ok (.isub, 1) := by decide +kernel
theorem dX8_wholeDrawing_31 : decode cX8_wholeDrawing 31 = .ok (.putfield 116, 3) := by decide +kernel
theorem dX8_wholeDrawing_34 : decode cX8_wholeDrawing 34 = .ok (.return_, 1) := by decide +kernel
theorem dX8_findPanes_0 : decode cX8_findPanes 0 = .ok (.aload_n 0, 1) := by decide +kernel
theorem dX8_findPanes_1 : decode cX8_findPanes 1 = .ok (.invokevirtual 131, 3) := by decide +kernel
theorem dX8_findPanes_4 : decode cX8_findPanes 4 = .ok (.aload_n 0, 1) := by decide +kernel
theorem dX8_findPanes_5 : decode cX8_findPanes 5 = .ok (.iconst 0, 1) := by decide +kernel
theorem dX8_findPanes_6 : decode cX8_findPanes 6 = .ok (.putfield 92, 3) := by decide +kernel
theorem dX8_findPanes_9 : decode cX8_findPanes 9 = .ok (.iconst 0, 1) := by decide +kernel
theorem dX8_findPanes_10 : decode cX8_findPanes 10 = .ok (.istore_n 1, 1) := by decide +kernel
theorem dX8_findPanes_11 : decode cX8_findPanes 11 = .ok (.iload_n 1, 1) := by decide +kernel
theorem dX8_findPanes_12 : decode cX8_findPanes 12 = .ok (.bipush 49, 2) := by decide +kernel
theorem dX8_findPanes_14 : decode cX8_findPanes 14 = .ok (.if_icmp .ge 16, 3) := by decide +kernel
theorem dX8_findPanes_17 : decode cX8_findPanes 17 = .ok (.aload_n 0, 1) := by decide +kernel
theorem dX8_findPanes_18 : decode cX8_findPanes 18 = .ok (.getfield 25, 3) := by decide +kernel
theorem dX8_findPanes_21 : decode cX8_findPanes 21 = .ok (.iload_n 1, 1) := by decide +kernel
theorem dX8_findPanes_22 : decode cX8_findPanes 22 = .ok (.iconst (-1), 1) := by decide +kernel
theorem dX8_findPanes_23 : decode cX8_findPanes 23 = .ok (.iastore, 1) := by decide +kernel
theorem dX8_findPanes_24 : decode cX8_findPanes 24 = .ok (.iinc 1 1, 3) := by decide +kernel
theorem dX8_findPanes_27 : decode cX8_findPanes 27 = .ok (.goto (-16), 3) := by decide +kernel
theorem dX8_findPanes_30 : decode cX8_findPanes 30 = .ok (.iconst 0, 1) := by decide +kernel
theorem dX8_findPanes_31 : decode cX8_findPanes 31 = .ok (.istore_n 1, 1) := by decide +kernel
theorem dX8_findPanes_32 : decode cX8_findPanes 32 = .ok (.iload_n 1, 1) := by decide +kernel
theorem dX8_findPanes_33 : decode cX8_findPanes 33 = .ok (.bipush 49, 2) := by decide +kernel
theorem dX8_findPanes_35 : decode cX8_findPanes 35 = .ok (.if_icmp .ge 65, 3) := by decide +kernel
theorem dX8_findPanes_38 : decode cX8_findPanes 38 = .ok (.aload_n 0, 1) := by decide +kernel
theorem dX8_findPanes_39 : decode cX8_findPanes 39 = .ok (.iload_n 1, 1) := by decide +kernel
theorem dX8_findPanes_40 : decode cX8_findPanes 40 = .ok (.bipush 7, 2) := by decide +kernel
theorem dX8_findPanes_42 : decode cX8_findPanes 42 = .ok (.idiv, 1) := by decide +kernel
theorem dX8_findPanes_43 : decode cX8_findPanes 43 = .ok (.iload_n 1, 1) := by decide +kernel
theorem dX8_findPanes_44 : decode cX8_findPanes 44 = .ok (.bipush 7, 2) := by decide +kernel
theorem dX8_findPanes_46 : decode cX8_findPanes 46 = .ok (.irem, 1) := by decide +kernel
theorem dX8_findPanes_47 : decode cX8_findPanes 47 = .ok (.invokevirtual 95, 3) := by decide +kernel
theorem dX8_findPanes_50 : decode cX8_findPanes 50 = .ok (.ifCond .eq 44, 3) := by decide +kernel
theorem dX8_findPanes_53 : decode cX8_findPanes 53 = .ok (.aload_n 0, 1) := by decide +kernel
theorem dX8_findPanes_54 : decode cX8_findPanes 54 = .ok (.getfield 25, 3) := by decide +kernel
theorem dX8_findPanes_57 : decode cX8_findPanes 57 = .ok (.iload_n 1, 1) := by decide +kernel
theorem dX8_findPanes_58 : decode cX8_findPanes 58 = .ok (.iaload, 1) := by decide +kernel
theorem dX8_findPanes_59 : decode cX8_findPanes 59 = .ok (.ifCond .ge 35, 3) := by decide +kernel
theorem dX8_findPanes_62 : decode cX8_findPanes 62 = .ok (.aload_n 0, 1) := by decide +kernel
theorem dX8_findPanes_63 : decode cX8_findPanes 63 = .ok (.getfield 31, 3) := by decide +kernel
theorem dX8_findPanes_66 : decode cX8_findPanes 66 = .ok (.aload_n 0, 1) := by decide +kernel
theorem dX8_findPanes_67 : decode cX8_findPanes 67 = .ok (.getfield 92, 3) := by decide +kernel
theorem dX8_findPanes_70 : decode cX8_findPanes 70 = .ok (.aload_n 0, 1) := by decide +kernel
theorem dX8_findPanes_71 : decode cX8_findPanes 71 = .ok (.aload_n 0, 1) := by decide +kernel
theorem dX8_findPanes_72 : decode cX8_findPanes 72 = .ok (.getfield 25, 3) := by decide +kernel
theorem dX8_findPanes_75 : decode cX8_findPanes 75 = .ok (.iload_n 1, 1) := by decide +kernel
theorem dX8_findPanes_76 : decode cX8_findPanes 76 = .ok (.aload_n 0, 1) := by decide +kernel
theorem dX8_findPanes_77 : decode cX8_findPanes 77 = .ok (.getfield 92, 3) := by decide +kernel
theorem dX8_findPanes_80 : decode cX8_findPanes 80 = .ok (.invokevirtual 134, 3) := by decide +kernel
theorem dX8_findPanes_83 : decode cX8_findPanes 83 = .ok (.iastore, 1) := by decide +kernel
theorem dX8_findPanes_84 : decode cX8_findPanes 84 = .ok (.aload_n 0, 1) := by decide +kernel
theorem dX8_findPanes_85 : decode cX8_findPanes 85 = .ok (.dup, 1) := by decide +kernel
theorem dX8_findPanes_86 : decode cX8_findPanes 86 = .ok (.getfield 92, 3) := by decide +kernel
theorem dX8_findPanes_89 : decode cX8_findPanes 89 = .ok (.iconst 1, 1) := by decide +kernel
theorem dX8_findPanes_90 : decode cX8_findPanes 90 = .ok (.iadd, 1) := by decide +kernel
theorem dX8_findPanes_91 : decode cX8_findPanes 91 = .ok (.putfield 92, 3) := by decide +kernel
theorem dX8_findPanes_94 : decode cX8_findPanes 94 = .ok (.iinc 1 1, 3) := by decide +kernel
theorem dX8_findPanes_97 : decode cX8_findPanes 97 = .ok (.goto (-65), 3) := by decide +kernel
theorem dX8_findPanes_100 : decode cX8_findPanes 100 = .ok (.return_, 1) := by decide +kernel
theorem dX8_isPane_0 : decode cX8_isPane 0 = .ok (.aload_n 0, 1) := by decide +kernel
theorem dX8_isPane_1 : decode cX8_isPane 1 = .ok (.invokevirtual 89, 3) := by decide +kernel
theorem dX8_isPane_4 : decode cX8_isPane 4 = .ok (.iload_n 1, 1) := by decide +kernel
theorem dX8_isPane_5 : decode cX8_isPane 5 = .ok (.iconst 0, 1) := by decide +kernel
theorem dX8_isPane_6 : decode cX8_isPane 6 = .ok (.aload_n 0, 1) := by decide +kernel
theorem dX8_isPane_7 : decode cX8_isPane 7 = .ok (.getfield 92, 3) := by decide +kernel
theorem dX8_isPane_10 : decode cX8_isPane 10 = .ok (.iconst 1, 1) := by decide +kernel
theorem dX8_isPane_11 : decode cX8_isPane 11 = .ok (.isub, 1) := by decide +kernel
theorem dX8_isPane_12 : decode cX8_isPane 12 = .ok (.invokestatic 65, 3) := by decide +kernel
theorem dX8_isPane_15 : decode cX8_isPane 15 = .ok (.ireturn, 1) := by decide +kernel
theorem dX8_corners_0 : decode cX8_corners 0 = .ok (.iconst 0, 1) := by decide +kernel
theorem dX8_corners_1 : decode cX8_corners 1 = .ok (.istore_n 3, 1) := by decide +kernel
theorem dX8_corners_2 : decode cX8_corners 2 = .ok (.iconst 0, 1) := by decide +kernel
theorem dX8_corners_3 : decode cX8_corners 3 = .ok (.istore 4, 2) := by decide +kernel
theorem dX8_corners_5 : decode cX8_corners 5 = .ok (.iload 4, 2) := by decide +kernel
theorem dX8_corners_7 : decode cX8_corners 7 = .ok (.iconst 1, 1) := by decide +kernel
theorem dX8_corners_8 : decode cX8_corners 8 = .ok (.iadd, 1) := by decide +kernel
theorem dX8_corners_9 : decode cX8_corners 9 = .ok (.aload_n 0, 1) := by decide +kernel
theorem dX8_corners_10 : decode cX8_corners 10 = .ok (.getfield 7, 3) := by decide +kernel
theorem dX8_corners_13 : decode cX8_corners 13 = .ok (.iconst 0, 1) := by decide +kernel
theorem dX8_corners_14 : decode cX8_corners 14 = .ok (.iaload, 1) := by decide +kernel
theorem dX8_corners_15 : decode cX8_corners 15 = .ok (.if_icmp .ge 122, 3) := by decide +kernel
theorem dX8_corners_18 : decode cX8_corners 18 = .ok (.iconst 0, 1) := by decide +kernel
theorem dX8_corners_19 : decode cX8_corners 19 = .ok (.istore 5, 2) := by decide +kernel
theorem dX8_corners_21 : decode cX8_corners 21 = .ok (.iload 5, 2) := by decide +kernel
theorem dX8_corners_23 : decode cX8_corners 23 = .ok (.iconst 1, 1) := by decide +kernel
theorem dX8_corners_24 : decode cX8_corners 24 = .ok (.iadd, 1) := by decide +kernel
theorem dX8_corners_25 : decode cX8_corners 25 = .ok (.aload_n 0, 1) := by decide +kernel
theorem dX8_corners_26 : decode cX8_corners 26 = .ok (.getfield 7, 3) := by decide +kernel
theorem dX8_corners_29 : decode cX8_corners 29 = .ok (.iconst 1, 1) := by decide +kernel
theorem dX8_corners_30 : decode cX8_corners 30 = .ok (.iaload, 1) := by decide +kernel
theorem dX8_corners_31 : decode cX8_corners 31 = .ok (.if_icmp .ge 100, 3) := by decide +kernel
theorem dX8_corners_34 : decode cX8_corners 34 = .ok (.bipush 7, 2) := by decide +kernel
theorem dX8_corners_36 : decode cX8_corners 36 = .ok (.iload 4, 2) := by decide +kernel
theorem dX8_corners_38 : decode cX8_corners 38 = .ok (.imul, 1) := by decide +kernel
theorem dX8_corners_39 : decode cX8_corners 39 = .ok (.iload 5, 2) := by decide +kernel
theorem dX8_corners_41 : decode cX8_corners 41 = .ok (.iadd, 1) := by decide +kernel
theorem dX8_corners_42 : decode cX8_corners 42 = .ok (.istore 6, 2) := by decide +kernel
theorem dX8_corners_44 : decode cX8_corners 44 = .ok (.aload_n 1, 1) := by decide +kernel
theorem dX8_corners_45 : decode cX8_corners 45 = .ok (.iload 6, 2) := by decide +kernel
theorem dX8_corners_47 : decode cX8_corners 47 = .ok (.iaload, 1) := by decide +kernel
theorem dX8_corners_48 : decode cX8_corners 48 = .ok (.iload_n 2, 1) := by decide +kernel
theorem dX8_corners_49 : decode cX8_corners 49 = .ok (.if_icmp .ne 7, 3) := by decide +kernel
theorem dX8_corners_52 : decode cX8_corners 52 = .ok (.iconst 1, 1) := by decide +kernel
theorem dX8_corners_53 : decode cX8_corners 53 = .ok (.goto 4, 3) := by decide +kernel
theorem dX8_corners_56 : decode cX8_corners 56 = .ok (.iconst 0, 1) := by decide +kernel
theorem dX8_corners_57 : decode cX8_corners 57 = .ok (.aload_n 1, 1) := by decide +kernel
theorem dX8_corners_58 : decode cX8_corners 58 = .ok (.iload 6, 2) := by decide +kernel
theorem dX8_corners_60 : decode cX8_corners 60 = .ok (.iconst 1, 1) := by decide +kernel
theorem dX8_corners_61 : decode cX8_corners 61 = .ok (.iadd, 1) := by decide +kernel
theorem dX8_corners_62 : decode cX8_corners 62 = .ok (.iaload, 1) := by decide +kernel
theorem dX8_corners_63 : decode cX8_corners 63 = .ok (.iload_n 2, 1) := by decide +kernel
theorem dX8_corners_64 : decode cX8_corners 64 = .ok (.if_icmp .ne 7, 3) := by decide +kernel
theorem dX8_corners_67 : decode cX8_corners 67 = .ok (.iconst 1, 1) := by decide +kernel
theorem dX8_corners_68 : decode cX8_corners 68 = .ok (.goto 4, 3) := by decide +kernel
theorem dX8_corners_71 : decode cX8_corners 71 = .ok (.iconst 0, 1) := by decide +kernel
theorem dX8_corners_72 : decode cX8_corners 72 = .ok (.iadd, 1) := by decide +kernel
theorem dX8_corners_73 : decode cX8_corners 73 = .ok (.aload_n 1, 1) := by decide +kernel
theorem dX8_corners_74 : decode cX8_corners 74 = .ok (.iload 6, 2) := by decide +kernel
theorem dX8_corners_76 : decode cX8_corners 76 = .ok (.bipush 7, 2) := by decide +kernel
theorem dX8_corners_78 : decode cX8_corners 78 = .ok (.iadd, 1) := by decide +kernel
theorem dX8_corners_79 : decode cX8_corners 79 = .ok (.iaload, 1) := by decide +kernel
theorem dX8_corners_80 : decode cX8_corners 80 = .ok (.iload_n 2, 1) := by decide +kernel
theorem dX8_corners_81 : decode cX8_corners 81 = .ok (.if_icmp .ne 7, 3) := by decide +kernel
theorem dX8_corners_84 : decode cX8_corners 84 = .ok (.iconst 1, 1) := by decide +kernel
theorem dX8_corners_85 : decode cX8_corners 85 = .ok (.goto 4, 3) := by decide +kernel
theorem dX8_corners_88 : decode cX8_corners 88 = .ok (.iconst 0, 1) := by decide +kernel
theorem dX8_corners_89 : decode cX8_corners 89 = .ok (.iadd, 1) := by decide +kernel
theorem dX8_corners_90 : decode cX8_corners 90 = .ok (.aload_n 1, 1) := by decide +kernel
theorem dX8_corners_91 : decode cX8_corners 91 = .ok (.iload 6, 2) := by decide +kernel
theorem dX8_corners_93 : decode cX8_corners 93 = .ok (.bipush 7, 2) := by decide +kernel
theorem dX8_corners_95 : decode cX8_corners 95 = .ok (.iadd, 1) := by decide +kernel
theorem dX8_corners_96 : decode cX8_corners 96 = .ok (.iconst 1, 1) := by decide +kernel
theorem dX8_corners_97 : decode cX8_corners 97 = .ok (.iadd, 1) := by decide +kernel
theorem dX8_corners_98 : decode cX8_corners 98 = .ok (.iaload, 1) := by decide +kernel
theorem dX8_corners_99 : decode cX8_corners 99 = .ok (.iload_n 2, 1) := by decide +kernel
theorem dX8_corners_100 : decode cX8_corners 100 = .ok (.if_icmp .ne 7, 3) := by decide +kernel
theorem dX8_corners_103 : decode cX8_corners 103 = .ok (.iconst 1, 1) := by decide +kernel
theorem dX8_corners_104 : decode cX8_corners 104 = .ok (.goto 4, 3) := by decide +kernel
theorem dX8_corners_107 : decode cX8_corners 107 = .ok (.iconst 0, 1) := by decide +kernel
theorem dX8_corners_108 : decode cX8_corners 108 = .ok (.iadd, 1) := by decide +kernel
theorem dX8_corners_109 : decode cX8_corners 109 = .ok (.istore 7, 2) := by decide +kernel
theorem dX8_corners_111 : decode cX8_corners 111 = .ok (.iload_n 3, 1) := by decide +kernel
theorem dX8_corners_112 : decode cX8_corners 112 = .ok (.iload 7, 2) := by decide +kernel
theorem dX8_corners_114 : decode cX8_corners 114 = .ok (.iconst 3, 1) := by decide +kernel
theorem dX8_corners_115 : decode cX8_corners 115 = .ok (.if_icmp .ne 7, 3) := by decide +kernel
theorem dX8_corners_118 : decode cX8_corners 118 = .ok (.iconst 1, 1) := by decide +kernel
theorem dX8_corners_119 : decode cX8_corners 119 = .ok (.goto 4, 3) := by decide +kernel
theorem dX8_corners_122 : decode cX8_corners 122 = .ok (.iconst 0, 1) := by decide +kernel
theorem dX8_corners_123 : decode cX8_corners 123 = .ok (.iadd, 1) := by decide +kernel
theorem dX8_corners_124 : decode cX8_corners 124 = .ok (.istore_n 3, 1) := by decide +kernel
theorem dX8_corners_125 : decode cX8_corners 125 = .ok (.iinc 5 1, 3) := by decide +kernel
theorem dX8_corners_128 : decode cX8_corners 128 = .ok (.goto (-107), 3) := by decide +kernel
theorem dX8_corners_131 : decode cX8_corners 131 = .ok (.iinc 4 1, 3) := by decide +kernel
theorem dX8_corners_134 : decode cX8_corners 134 = .ok (.goto (-129), 3) := by decide +kernel
theorem dX8_corners_137 : decode cX8_corners 137 = .ok (.iload_n 3, 1) := by decide +kernel
theorem dX8_corners_138 : decode cX8_corners 138 = .ok (.ireturn, 1) := by decide +kernel
theorem dX8_isEdge_0 : decode cX8_isEdge 0 = .ok (.iload_n 1, 1) := by decide +kernel
theorem dX8_isEdge_1 : decode cX8_isEdge 1 = .ok (.bipush 7, 2) := by decide +kernel
theorem dX8_isEdge_3 : decode cX8_isEdge 3 = .ok (.idiv, 1) := by decide +kernel
theorem dX8_isEdge_4 : decode cX8_isEdge 4 = .ok (.istore_n 2, 1) := by decide +kernel
theorem dX8_isEdge_5 : decode cX8_isEdge 5 = .ok (.iload_n 1, 1) := by decide +kernel
theorem dX8_isEdge_6 : decode cX8_isEdge 6 = .ok (.bipush 7, 2) := by decide +kernel
theorem dX8_isEdge_8 : decode cX8_isEdge 8 = .ok (.irem, 1) := by decide +kernel
theorem dX8_isEdge_9 : decode cX8_isEdge 9 = .ok (.istore_n 3, 1) := by decide +kernel
theorem dX8_isEdge_10 : decode cX8_isEdge 10 = .ok (.iload_n 2, 1) := by decide +kernel
theorem dX8_isEdge_11 : decode cX8_isEdge 11 = .ok (.ifCond .eq 31, 3) := by decide +kernel
theorem dX8_isEdge_14 : decode cX8_isEdge 14 = .ok (.iload_n 3, 1) := by decide +kernel
theorem dX8_isEdge_15 : decode cX8_isEdge 15 = .ok (.ifCond .eq 27, 3) := by decide +kernel
theorem dX8_isEdge_18 : decode cX8_isEdge 18 = .ok (.iload_n 2, 1) := by decide +kernel
theorem dX8_isEdge_19 : decode cX8_isEdge 19 = .ok (.aload_n 0, 1) := by decide +kernel
theorem dX8_isEdge_20 : decode cX8_isEdge 20 = .ok (.getfield 7, 3) := by decide +kernel
theorem dX8_isEdge_23 : decode cX8_isEdge 23 = .ok (.iconst 0, 1) := by decide +kernel
theorem dX8_isEdge_24 : decode cX8_isEdge 24 = .ok (.iaload, 1) := by decide +kernel
theorem dX8_isEdge_25 : decode cX8_isEdge 25 = .ok (.iconst 1, 1) := by decide +kernel
theorem dX8_isEdge_26 : decode cX8_isEdge 26 = .ok (.isub, 1) := by decide +kernel
theorem dX8_isEdge_27 : decode cX8_isEdge 27 = .ok (.if_icmp .eq 15, 3) := by decide +kernel
theorem dX8_isEdge_30 : decode cX8_isEdge 30 = .ok (.iload_n 3, 1) := by decide +kernel
theorem dX8_isEdge_31 : decode cX8_isEdge 31 = .ok (.aload_n 0, 1) := by decide +kernel
theorem dX8_isEdge_32 : decode cX8_isEdge 32 = .ok (.getfield 7, 3) := by decide +kernel
theorem dX8_isEdge_35 : decode cX8_isEdge 35 = .ok (.iconst 1, 1) := by decide +kernel
theorem dX8_isEdge_36 : decode cX8_isEdge 36 = .ok (.iaload, 1) := by decide +kernel
theorem dX8_isEdge_37 : decode cX8_isEdge 37 = .ok (.iconst 1, 1) := by decide +kernel
theorem dX8_isEdge_38 : decode cX8_isEdge 38 = .ok (.isub, 1) := by decide +kernel
theorem dX8_isEdge_39 : decode cX8_isEdge 39 = .ok (.if_icmp .ne 7, 3) := by decide +kernel
theorem dX8_isEdge_42 : decode cX8_isEdge 42 = .ok (.iconst 1, 1) := by decide +kernel
theorem dX8_isEdge_43 : decode cX8_isEdge 43 = .ok (.goto 4, 3) := by decide +kernel
theorem dX8_isEdge_46 : decode cX8_isEdge 46 = .ok (.iconst 0, 1) := by decide +kernel
theorem dX8_isEdge_47 : decode cX8_isEdge 47 = .ok (.ireturn, 1) := by decide +kernel
theorem dX8_isHole_0 : decode cX8_isHole 0 = .ok (.iconst 1, 1) := by decide +kernel
theorem dX8_isHole_1 : decode cX8_isHole 1 = .ok (.istore 4, 2) := by decide +kernel
theorem dX8_isHole_3 : decode cX8_isHole 3 = .ok (.aload_n 0, 1) := by decide +kernel
theorem dX8_isHole_4 : decode cX8_isHole 4 = .ok (.getfield 34, 3) := by decide +kernel
theorem dX8_isHole_7 : decode cX8_isHole 7 = .ok (.iload_n 3, 1) := by decide +kernel
theorem dX8_isHole_8 : decode cX8_isHole 8 = .ok (.iconst 1, 1) := by decide +kernel
theorem dX8_isHole_9 : decode cX8_isHole 9 = .ok (.bastore, 1) := by decide +kernel
theorem dX8_isHole_10 : decode cX8_isHole 10 = .ok (.aload_n 0, 1) := by decide +kernel
theorem dX8_isHole_11 : decode cX8_isHole 11 = .ok (.getfield 22, 3) := by decide +kernel
theorem dX8_isHole_14 : decode cX8_isHole 14 = .ok (.iconst 0, 1) := by decide +kernel
theorem dX8_isHole_15 : decode cX8_isHole 15 = .ok (.iload_n 3, 1) := by decide +kernel
theorem dX8_isHole_16 : decode cX8_isHole 16 = .ok (.iastore, 1) := by decide +kernel
theorem dX8_isHole_17 : decode cX8_isHole 17 = .ok (.iconst 1, 1) := by decide +kernel
theorem dX8_isHole_18 : decode cX8_isHole 18 = .ok (.istore 5, 2) := by decide +kernel
theorem dX8_isHole_20 : decode cX8_isHole 20 = .ok (.iconst 0, 1) := by decide +kernel
theorem dX8_isHole_21 : decode cX8_isHole 21 = .ok (.istore 6, 2) := by decide +kernel
theorem dX8_isHole_23 : decode cX8_isHole 23 = .ok (.iload 6, 2) := by decide +kernel
theorem dX8_isHole_25 : decode cX8_isHole 25 = .ok (.iload 5, 2) := by decide +kernel
theorem dX8_isHole_27 : decode cX8_isHole 27 = .ok (.if_icmp .ge 162, 3) := by decide +kernel
theorem dX8_isHole_30 : decode cX8_isHole 30 = .ok (.aload_n 0, 1) := by decide +kernel
theorem dX8_isHole_31 : decode cX8_isHole 31 = .ok (.getfield 22, 3) := by decide +kernel
theorem dX8_isHole_34 : decode cX8_isHole 34 = .ok (.iload 6, 2) := by decide +kernel
theorem dX8_isHole_36 : decode cX8_isHole 36 = .ok (.iaload, 1) := by decide +kernel
theorem dX8_isHole_37 : decode cX8_isHole 37 = .ok (.bipush 7, 2) := by decide +kernel
theorem dX8_isHole_39 : decode cX8_isHole 39 = .ok (.idiv, 1) := by decide +kernel
theorem dX8_isHole_40 : decode cX8_isHole 40 = .ok (.istore 7, 2) := by decide +kernel
theorem dX8_isHole_42 : decode cX8_isHole 42 = .ok (.aload_n 0, 1) := by decide +kernel
theorem dX8_isHole_43 : decode cX8_isHole 43 = .ok (.getfield 22, 3) := by decide +kernel
theorem dX8_isHole_46 : decode cX8_isHole 46 = .ok (.iload 6, 2) := by decide +kernel
theorem dX8_isHole_48 : decode cX8_isHole 48 = .ok (.iaload, 1) := by decide +kernel
theorem dX8_isHole_49 : decode cX8_isHole 49 = .ok (.bipush 7, 2) := by decide +kernel
theorem dX8_isHole_51 : decode cX8_isHole 51 = .ok (.irem, 1) := by decide +kernel
theorem dX8_isHole_52 : decode cX8_isHole 52 = .ok (.istore 8, 2) := by decide +kernel
theorem dX8_isHole_54 : decode cX8_isHole 54 = .ok (.iload 4, 2) := by decide +kernel
theorem dX8_isHole_56 : decode cX8_isHole 56 = .ok (.ifCond .eq 21, 3) := by decide +kernel
theorem dX8_isHole_59 : decode cX8_isHole 59 = .ok (.aload_n 0, 1) := by decide +kernel
theorem dX8_isHole_60 : decode cX8_isHole 60 = .ok (.aload_n 0, 1) := by decide +kernel
theorem dX8_isHole_61 : decode cX8_isHole 61 = .ok (.getfield 22, 3) := by decide +kernel
theorem dX8_isHole_64 : decode cX8_isHole 64 = .ok (.iload 6, 2) := by decide +kernel
theorem dX8_isHole_66 : decode cX8_isHole 66 = .ok (.iaload, 1) := by decide +kernel
theorem dX8_isHole_67 : decode cX8_isHole 67 = .ok (.invokevirtual 138, 3) := by decide +kernel
theorem dX8_isHole_70 : decode cX8_isHole 70 = .ok (.ifCond .ne 7, 3) := by decide +kernel
theorem dX8_isHole_73 : decode cX8_isHole 73 = .ok (.iconst 1, 1) := by decide +kernel
theorem dX8_isHole_74 : decode cX8_isHole 74 = .ok (.goto 4, 3) := by decide +kernel
theorem dX8_isHole_77 : decode cX8_isHole 77 = .ok (.iconst 0, 1) := by decide +kernel
theorem dX8_isHole_78 : decode cX8_isHole 78 = .ok (.istore 4, 2) := by decide +kernel
theorem dX8_isHole_80 : decode cX8_isHole 80 = .ok (.iconst 0, 1) := by decide +kernel
theorem dX8_isHole_81 : decode cX8_isHole 81 = .ok (.istore 9, 2) := by decide +kernel
theorem dX8_isHole_83 : decode cX8_isHole 83 = .ok (.iload 9, 2) := by decide +kernel
theorem dX8_isHole_85 : decode cX8_isHole 85 = .ok (.bipush 9, 2) := by decide +kernel
theorem dX8_isHole_87 : decode cX8_isHole 87 = .ok (.if_icmp .ge 96, 3) := by decide +kernel
theorem dX8_isHole_90 : decode cX8_isHole 90 = .ok (.bipush 7, 2) := by decide +kernel
theorem dX8_isHole_92 : decode cX8_isHole 92 = .ok (.iload 7, 2) := by decide +kernel
theorem dX8_isHole_94 : decode cX8_isHole 94 = .ok (.iload 9, 2) := by decide +kernel
theorem dX8_isHole_96 : decode cX8_isHole 96 = .ok (.iconst 3, 1) := by decide +kernel
theorem dX8_isHole_97 : decode cX8_isHole 97 = .ok (.idiv, 1) := by decide +kernel
theorem dX8_isHole_98 : decode cX8_isHole 98 = .ok (.iadd, 1) := by decide +kernel
theorem dX8_isHole_99 : decode cX8_isHole 99 = .ok (.iconst 1, 1) := by decide +kernel
theorem dX8_isHole_100 : decode cX8_isHole 100 = .ok (.isub, 1) := by decide +kernel
theorem dX8_isHole_101 : decode cX8_isHole 101 = .ok (.imul, 1) := by decide +kernel
theorem dX8_isHole_102 : decode cX8_isHole 102 = .ok (.iload 8, 2) := by decide +kernel
theorem dX8_isHole_104 : decode cX8_isHole 104 = .ok (.iadd, 1) := by decide +kernel
theorem dX8_isHole_105 : decode cX8_isHole 105 = .ok (.iload 9, 2) := by decide +kernel
theorem dX8_isHole_107 : decode cX8_isHole 107 = .ok (.iconst 3, 1) := by decide +kernel
theorem dX8_isHole_108 : decode cX8_isHole 108 = .ok (.irem, 1) := by decide +kernel
theorem dX8_isHole_109 : decode cX8_isHole 109 = .ok (.iadd, 1) := by decide +kernel
theorem dX8_isHole_110 : decode cX8_isHole 110 = .ok (.iconst 1, 1) := by decide +kernel
theorem dX8_isHole_111 : decode cX8_isHole 111 = .ok (.isub, 1) := by decide +kernel
theorem dX8_isHole_112 : decode cX8_isHole 112 = .ok (.istore 10, 2) := by decide +kernel
theorem dX8_isHole_114 : decode cX8_isHole 114 = .ok (.aload_n 0, 1) := by decide +kernel
theorem dX8_isHole_115 : decode cX8_isHole 115 = .ok (.iload 7, 2) := by decide +kernel
theorem dX8_isHole_117 : decode cX8_isHole 117 = .ok (.iload 9, 2) := by decide +kernel
theorem dX8_isHole_119 : decode cX8_isHole 119 = .ok (.iconst 3, 1) := by decide +kernel
theorem dX8_isHole_120 : decode cX8_isHole 120 = .ok (.idiv, 1) := by decide +kernel
theorem dX8_isHole_121 : decode cX8_isHole 121 = .ok (.iadd, 1) := by decide +kernel
theorem dX8_isHole_122 : decode cX8_isHole 122 = .ok (.iconst 1, 1) := by decide +kernel
theorem dX8_isHole_123 : decode cX8_isHole 123 = .ok (.isub, 1) := by decide +kernel
theorem dX8_isHole_124 : decode cX8_isHole 124 = .ok (.iload 8, 2) := by decide +kernel
theorem dX8_isHole_126 : decode cX8_isHole 126 = .ok (.iload 9, 2) := by decide +kernel
theorem dX8_isHole_128 : decode cX8_isHole 128 = .ok (.iconst 3, 1) := by decide +kernel
theorem dX8_isHole_129 : decode cX8_isHole 129 = .ok (.irem, 1) := by decide +kernel
theorem dX8_isHole_130 : decode cX8_isHole 130 = .ok (.iadd, 1) := by decide +kernel
theorem dX8_isHole_131 : decode cX8_isHole 131 = .ok (.iconst 1, 1) := by decide +kernel
theorem dX8_isHole_132 : decode cX8_isHole 132 = .ok (.isub, 1) := by decide +kernel
theorem dX8_isHole_133 : decode cX8_isHole 133 = .ok (.invokevirtual 95, 3) := by decide +kernel
theorem dX8_isHole_136 : decode cX8_isHole 136 = .ok (.ifCond .eq 41, 3) := by decide +kernel
theorem dX8_isHole_139 : decode cX8_isHole 139 = .ok (.aload_n 1, 1) := by decide +kernel
theorem dX8_isHole_140 : decode cX8_isHole 140 = .ok (.iload 10, 2) := by decide +kernel
theorem dX8_isHole_142 : decode cX8_isHole 142 = .ok (.iaload, 1) := by decide +kernel
theorem dX8_isHole_143 : decode cX8_isHole 143 = .ok (.iload_n 2, 1) := by decide +kernel
theorem dX8_isHole_144 : decode cX8_isHole 144 = .ok (.if_icmp .eq 33, 3) := by decide +kernel
theorem dX8_isHole_147 : decode cX8_isHole 147 = .ok (.aload_n 0, 1) := by decide +kernel
theorem dX8_isHole_148 : decode cX8_isHole 148 = .ok (.getfield 34, 3) := by decide +kernel
theorem dX8_isHole_151 : decode cX8_isHole 151 = .ok (.iload 10, 2) := by decide +kernel
theorem dX8_isHole_153 : decode cX8_isHole 153 = .ok (.baload, 1) := by decide +kernel
theorem dX8_isHole_154 : decode cX8_isHole 154 = .ok (.ifCond .ne 23, 3) := by decide +kernel
theorem dX8_isHole_157 : decode cX8_isHole 157 = .ok (.aload_n 0, 1) := by decide +kernel
theorem dX8_isHole_158 : decode cX8_isHole 158 = .ok (.getfield 34, 3) := by decide +kernel
theorem dX8_isHole_161 : decode cX8_isHole 161 = .ok (.iload 10, 2) := by decide +kernel
theorem dX8_isHole_163 : decode cX8_isHole 163 = .ok (.iconst 1, 1) := by decide +kernel
theorem dX8_isHole_164 : decode cX8_isHole 164 = .ok (.bastore, 1) := by decide +kernel
theorem dX8_isHole_165 : decode cX8_isHole 165 = .ok (.aload_n 0, 1) := by decide +kernel
theorem dX8_isHole_166 : decode cX8_isHole 166 = .ok (.getfield 22, 3) := by decide +kernel
theorem dX8_isHole_169 : decode cX8_isHole 169 = .ok (.iload 5, 2) := by decide +kernel
theorem dX8_isHole_171 : decode cX8_isHole 171 = .ok (.iload 10, 2) := by decide +kernel
theorem dX8_isHole_173 : decode cX8_isHole 173 = .ok (.iastore, 1) := by decide +kernel
theorem dX8_isHole_174 : decode cX8_isHole 174 = .ok (.iinc 5 1, 3) := by decide +kernel
theorem dX8_isHole_177 : decode cX8_isHole 177 = .ok (.iinc 9 1, 3) := by decide +kernel
theorem dX8_isHole_180 : decode cX8_isHole 180 = .ok (.goto (-97), 3) := by decide +kernel
theorem dX8_isHole_183 : decode cX8_isHole 183 = .ok (.iinc 6 1, 3) := by decide +kernel
theorem dX8_isHole_186 : decode cX8_isHole 186 = .ok (.goto (-163), 3) := by decide +kernel
theorem dX8_isHole_189 : decode cX8_isHole 189 = .ok (.iload 4, 2) := by decide +kernel
theorem dX8_isHole_191 : decode cX8_isHole 191 = .ok (.ireturn, 1) := by decide +kernel
theorem dX8_holesOf_0 : decode cX8_holesOf 0 = .ok (.iconst 0, 1) := by decide +kernel
theorem dX8_holesOf_1 : decode cX8_holesOf 1 = .ok (.istore_n 3, 1) := by decide +kernel
theorem dX8_holesOf_2 : decode cX8_holesOf 2 = .ok (.iload_n 3, 1) := by decide +kernel
theorem dX8_holesOf_3 : decode cX8_holesOf 3 = .ok (.bipush 49, 2) := by decide +kernel
theorem dX8_holesOf_5 : decode cX8_holesOf 5 = .ok (.if_icmp .ge 16, 3) := by decide +kernel
theorem dX8_holesOf_8 : decode cX8_holesOf 8 = .ok (.aload_n 0, 1) := by decide +kernel
theorem dX8_holesOf_9 : decode cX8_holesOf 9 = .ok (.getfield 34, 3) := by decide +kernel
theorem dX8_holesOf_12 : decode cX8_holesOf 12 = .ok (.iload_n 3, 1) := by decide +kernel
theorem dX8_holesOf_13 : decode cX8_holesOf 13 = .ok (.iconst 0, 1) := by decide +kernel
theorem dX8_holesOf_14 : decode cX8_holesOf 14 = .ok (.bastore, 1) := by decide +kernel
theorem dX8_holesOf_15 : decode cX8_holesOf 15 = .ok (.iinc 3 1, 3) := by decide +kernel
theorem dX8_holesOf_18 : decode cX8_holesOf 18 = .ok (.goto (-16), 3) := by decide +kernel
theorem dX8_holesOf_21 : decode cX8_holesOf 21 = .ok (.iconst 0, 1) := by decide +kernel
theorem dX8_holesOf_22 : decode cX8_holesOf 22 = .ok (.istore_n 3, 1) := by decide +kernel
theorem dX8_holesOf_23 : decode cX8_holesOf 23 = .ok (.iconst 0, 1) := by decide +kernel
theorem dX8_holesOf_24 : decode cX8_holesOf 24 = .ok (.istore 4, 2) := by decide +kernel
theorem dX8_holesOf_26 : decode cX8_holesOf 26 = .ok (.iload 4, 2) := by decide +kernel
theorem dX8_holesOf_28 : decode cX8_holesOf 28 = .ok (.bipush 49, 2) := by decide +kernel
theorem dX8_holesOf_30 : decode cX8_holesOf 30 = .ok (.if_icmp .ge 63, 3) := by decide +kernel
theorem dX8_holesOf_33 : decode cX8_holesOf 33 = .ok (.aload_n 0, 1) := by decide +kernel
theorem dX8_holesOf_34 : decode cX8_holesOf 34 = .ok (.iload 4, 2) := by decide +kernel
theorem dX8_holesOf_36 : decode cX8_holesOf 36 = .ok (.bipush 7, 2) := by decide +kernel
theorem dX8_holesOf_38 : decode cX8_holesOf 38 = .ok (.idiv, 1) := by decide +kernel
theorem dX8_holesOf_39 : decode cX8_holesOf 39 = .ok (.iload 4, 2) := by decide +kernel
theorem dX8_holesOf_41 : decode cX8_holesOf 41 = .ok (.bipush 7, 2) := by decide +kernel
theorem dX8_holesOf_43 : decode cX8_holesOf 43 = .ok (.irem, 1) := by decide +kernel
theorem dX8_holesOf_44 : decode cX8_holesOf 44 = .ok (.invokevirtual 95, 3) := by decide +kernel
theorem dX8_holesOf_47 : decode cX8_holesOf 47 = .ok (.ifCond .eq 40, 3) := by decide +kernel
theorem dX8_holesOf_50 : decode cX8_holesOf 50 = .ok (.aload_n 1, 1) := by decide +kernel
theorem dX8_holesOf_51 : decode cX8_holesOf 51 = .ok (.iload 4, 2) := by decide +kernel
theorem dX8_holesOf_53 : decode cX8_holesOf 53 = .ok (.iaload, 1) := by decide +kernel
theorem dX8_holesOf_54 : decode cX8_holesOf 54 = .ok (.iload_n 2, 1) := by decide +kernel
theorem dX8_holesOf_55 : decode cX8_holesOf 55 = .ok (.if_icmp .eq 32, 3) := by decide +kernel
theorem dX8_holesOf_58 : decode cX8_holesOf 58 = .ok (.aload_n 0, 1) := by decide +kernel
theorem dX8_holesOf_59 : decode cX8_holesOf 59 = .ok (.getfield 34, 3) := by decide +kernel
theorem dX8_holesOf_62 : decode cX8_holesOf 62 = .ok (.iload 4, 2) := by decide +kernel
theorem dX8_holesOf_64 : decode cX8_holesOf 64 = .ok (.baload, 1) := by decide +kernel
theorem dX8_holesOf_65 : decode cX8_holesOf 65 = .ok (.ifCond .ne 22, 3) := by decide +kernel
theorem dX8_holesOf_68 : decode cX8_holesOf 68 = .ok (.iload_n 3, 1) := by decide +kernel
theorem dX8_holesOf_69 : decode cX8_holesOf 69 = .ok (.aload_n 0, 1) := by decide +kernel
theorem dX8_holesOf_70 : decode cX8_holesOf 70 = .ok (.aload_n 1, 1) := by decide +kernel
theorem dX8_holesOf_71 : decode cX8_holesOf 71 = .ok (.iload_n 2, 1) := by decide +kernel
theorem dX8_holesOf_72 : decode cX8_holesOf 72 = .ok (.iload 4, 2) := by decide +kernel
theorem dX8_holesOf_74 : decode cX8_holesOf 74 = .ok (.invokevirtual 142, 3) := by decide +kernel
theorem dX8_holesOf_77 : decode cX8_holesOf 77 = .ok (.ifCond .eq 7, 3) := by decide +kernel
theorem dX8_holesOf_80 : decode cX8_holesOf 80 = .ok (.iconst 1, 1) := by decide +kernel
theorem dX8_holesOf_81 : decode cX8_holesOf 81 = .ok (.goto 4, 3) := by decide +kernel
theorem dX8_holesOf_84 : decode cX8_holesOf 84 = .ok (.iconst 0, 1) := by decide +kernel
theorem dX8_holesOf_85 : decode cX8_holesOf 85 = .ok (.iadd, 1) := by decide +kernel
theorem dX8_holesOf_86 : decode cX8_holesOf 86 = .ok (.istore_n 3, 1) := by decide +kernel
theorem dX8_holesOf_87 : decode cX8_holesOf 87 = .ok (.iinc 4 1, 3) := by decide +kernel
theorem dX8_holesOf_90 : decode cX8_holesOf 90 = .ok (.goto (-64), 3) := by decide +kernel
theorem dX8_holesOf_93 : decode cX8_holesOf 93 = .ok (.iload_n 3, 1) := by decide +kernel
theorem dX8_holesOf_94 : decode cX8_holesOf 94 = .ok (.ireturn, 1) := by decide +kernel
theorem dX8_isEasy_0 : decode cX8_isEasy 0 = .ok (.iload_n 3, 1) := by decide +kernel
theorem dX8_isEasy_1 : decode cX8_isEasy 1 = .ok (.aload_n 0, 1) := by decide +kernel
theorem dX8_isEasy_2 : decode cX8_isEasy 2 = .ok (.getfield 7, 3) := by decide +kernel
theorem dX8_isEasy_5 : decode cX8_isEasy 5 = .ok (.iconst 2, 1) := by decide +kernel
theorem dX8_isEasy_6 : decode cX8_isEasy 6 = .ok (.iaload, 1) := by decide +kernel
theorem dX8_isEasy_7 : decode cX8_isEasy 7 = .ok (.if_icmp .gt 37, 3) := by decide +kernel
theorem dX8_isEasy_10 : decode cX8_isEasy 10 = .ok (.aload_n 0, 1) := by decide +kernel
theorem dX8_isEasy_11 : decode cX8_isEasy 11 = .ok (.aload_n 1, 1) := by decide +kernel
theorem dX8_isEasy_12 : decode cX8_isEasy 12 = .ok (.iload_n 2, 1) := by decide +kernel
theorem dX8_isEasy_13 : decode cX8_isEasy 13 = .ok (.invokevirtual 146, 3) := by decide +kernel
theorem dX8_isEasy_16 : decode cX8_isEasy 16 = .ok (.aload_n 0, 1) := by decide +kernel
theorem dX8_isEasy_17 : decode cX8_isEasy 17 = .ok (.getfield 7, 3) := by decide +kernel
theorem dX8_isEasy_20 : decode cX8_isEasy 20 = .ok (.iconst 3, 1) := by decide +kernel
theorem dX8_isEasy_21 : decode cX8_isEasy 21 = .ok (.iaload, 1) := by decide +kernel
theorem dX8_isEasy_22 : decode cX8_isEasy 22 = .ok (.if_icmp .gt 22, 3) := by decide +kernel
theorem dX8_isEasy_25 : decode cX8_isEasy 25 = .ok (.iload_n 3, 1) := by decide +kernel
theorem dX8_isEasy_26 : decode cX8_isEasy 26 = .ok (.bipush 8, 2) := by decide +kernel
theorem dX8_isEasy_28 : decode cX8_isEasy 28 = .ok (.if_icmp .lt 12, 3) := by decide +kernel
theorem dX8_isEasy_31 : decode cX8_isEasy 31 = .ok (.aload_n 0, 1) := by decide +kernel
theorem dX8_isEasy_32 : decode cX8_isEasy 32 = .ok (.aload_n 1, 1) := by decide +kernel
theorem dX8_isEasy_33 : decode cX8_isEasy 33 = .ok (.iload_n 2, 1) := by decide +kernel
theorem dX8_isEasy_34 : decode cX8_isEasy 34 = .ok (.invokevirtual 150, 3) := by decide +kernel
theorem dX8_isEasy_37 : decode cX8_isEasy 37 = .ok (.ifCond .ne 7, 3) := by decide +kernel
theorem dX8_isEasy_40 : decode cX8_isEasy 40 = .ok (.iconst 1, 1) := by decide +kernel
theorem dX8_isEasy_41 : decode cX8_isEasy 41 = .ok (.goto 4, 3) := by decide +kernel
theorem dX8_isEasy_44 : decode cX8_isEasy 44 = .ok (.iconst 0, 1) := by decide +kernel
theorem dX8_isEasy_45 : decode cX8_isEasy 45 = .ok (.ireturn, 1) := by decide +kernel
theorem dX8_canCut_0 : decode cX8_canCut 0 = .ok (.aload_n 0, 1) := by decide +kernel
theorem dX8_canCut_1 : decode cX8_canCut 1 = .ok (.aload_n 0, 1) := by decide +kernel
theorem dX8_canCut_2 : decode cX8_canCut 2 = .ok (.getfield 25, 3) := by decide +kernel
theorem dX8_canCut_5 : decode cX8_canCut 5 = .ok (.iload_n 1, 1) := by decide +kernel
theorem dX8_canCut_6 : decode cX8_canCut 6 = .ok (.aload_n 0, 1) := by decide +kernel
theorem dX8_canCut_7 : decode cX8_canCut 7 = .ok (.getfield 31, 3) := by decide +kernel
theorem dX8_canCut_10 : decode cX8_canCut 10 = .ok (.iload_n 1, 1) := by decide +kernel
theorem dX8_canCut_11 : decode cX8_canCut 11 = .ok (.iaload, 1) := by decide +kernel
theorem dX8_canCut_12 : decode cX8_canCut 12 = .ok (.invokevirtual 153, 3) := by decide +kernel
theorem dX8_canCut_15 : decode cX8_canCut 15 = .ok (.ireturn, 1) := by decide +kernel
theorem dX8_paneCount_0 : decode cX8_paneCount 0 = .ok (.aload_n 0, 1) := by decide +kernel
theorem dX8_paneCount_1 : decode cX8_paneCount 1 = .ok (.invokevirtual 89, 3) := by decide +kernel
theorem dX8_paneCount_4 : decode cX8_paneCount 4 = .ok (.aload_n 0, 1) := by decide +kernel
theorem dX8_paneCount_5 : decode cX8_paneCount 5 = .ok (.getfield 92, 3) := by decide +kernel
theorem dX8_paneCount_8 : decode cX8_paneCount 8 = .ok (.ireturn, 1) := by decide +kernel
theorem dX8_paneAt_0 : decode cX8_paneAt 0 = .ok (.aload_n 0, 1) := by decide +kernel
theorem dX8_paneAt_1 : decode cX8_paneAt 1 = .ok (.invokevirtual 89, 3) := by decide +kernel
theorem dX8_paneAt_4 : decode cX8_paneAt 4 = .ok (.aload_n 0, 1) := by decide +kernel
theorem dX8_paneAt_5 : decode cX8_paneAt 5 = .ok (.iload_n 1, 1) := by decide +kernel
theorem dX8_paneAt_6 : decode cX8_paneAt 6 = .ok (.iload_n 2, 1) := by decide +kernel
theorem dX8_paneAt_7 : decode cX8_paneAt 7 = .ok (.invokevirtual 95, 3) := by decide +kernel
theorem dX8_paneAt_10 : decode cX8_paneAt 10 = .ok (.ifCond .eq 17, 3) := by decide +kernel
theorem dX8_paneAt_13 : decode cX8_paneAt 13 = .ok (.aload_n 0, 1) := by decide +kernel
theorem dX8_paneAt_14 : decode cX8_paneAt 14 = .ok (.getfield 25, 3) := by decide +kernel
theorem dX8_paneAt_17 : decode cX8_paneAt 17 = .ok (.bipush 7, 2) := by decide +kernel
theorem dX8_paneAt_19 : decode cX8_paneAt 19 = .ok (.iload_n 1, 1) := by decide +kernel
theorem dX8_paneAt_20 : decode cX8_paneAt 20 = .ok (.imul, 1) := by decide +kernel
theorem dX8_paneAt_21 : decode cX8_paneAt 21 = .ok (.iload_n 2, 1) := by decide +kernel
theorem dX8_paneAt_22 : decode cX8_paneAt 22 = .ok (.iadd, 1) := by decide +kernel
theorem dX8_paneAt_23 : decode cX8_paneAt 23 = .ok (.iaload, 1) := by decide +kernel
theorem dX8_paneAt_24 : decode cX8_paneAt 24 = .ok (.goto 4, 3) := by decide +kernel
theorem dX8_paneAt_27 : decode cX8_paneAt 27 = .ok (.iconst (-1), 1) := by decide +kernel
theorem dX8_paneAt_28 : decode cX8_paneAt 28 = .ok (.ireturn, 1) := by decide +kernel
theorem dX8_paneSize_0 : decode cX8_paneSize 0 = .ok (.aload_n 0, 1) := by decide +kernel
theorem dX8_paneSize_1 : decode cX8_paneSize 1 = .ok (.iload_n 1, 1) := by decide +kernel
theorem dX8_paneSize_2 : decode cX8_paneSize 2 = .ok (.invokevirtual 156, 3) := by decide +kernel
theorem dX8_paneSize_5 : decode cX8_paneSize 5 = .ok (.ifCond .eq 12, 3) := by decide +kernel
theorem dX8_paneSize_8 : decode cX8_paneSize 8 = .ok (.aload_n 0, 1) := by decide +kernel
theorem dX8_paneSize_9 : decode cX8_paneSize 9 = .ok (.getfield 31, 3) := by decide +kernel
theorem dX8_paneSize_12 : decode cX8_paneSize 12 = .ok (.iload_n 1, 1) := by decide +kernel
theorem dX8_paneSize_13 : decode cX8_paneSize 13 = .ok (.iaload, 1) := by decide +kernel
theorem dX8_paneSize_14 : decode cX8_paneSize 14 = .ok (.goto 4, 3) := by decide +kernel
theorem dX8_paneSize_17 : decode cX8_paneSize 17 = .ok (.iconst (-1), 1) := by decide +kernel
theorem dX8_paneSize_18 : decode cX8_paneSize 18 = .ok (.ireturn, 1) := by decide +kernel
theorem dX8_innerCorners_0 : decode cX8_innerCorners 0 = .ok (.aload_n 0, 1) := by decide +kernel
theorem dX8_innerCorners_1 : decode cX8_innerCorners 1 = .ok (.iload_n 1, 1) := by decide +kernel
theorem dX8_innerCorners_2 : decode cX8_innerCorners 2 = .ok (.invokevirtual 156, 3) := by decide +kernel
theorem dX8_innerCorners_5 : decode cX8_innerCorners 5 = .ok (.ifCond .eq 15, 3) := by decide +kernel
theorem dX8_innerCorners_8 : decode cX8_innerCorners 8 = .ok (.aload_n 0, 1) := by decide +kernel
theorem dX8_innerCorners_9 : decode cX8_innerCorners 9 = .ok (.aload_n 0, 1) := by decide +kernel
theorem dX8_innerCorners_10 : decode cX8_innerCorners 10 = .ok (.getfield 25, 3) := by decide +kernel
theorem dX8_innerCorners_13 : decode cX8_innerCorners 13 = .ok (.iload_n 1, 1) := by decide +kernel
theorem dX8_innerCorners_14 : decode cX8_innerCorners 14 = .ok (.invokevirtual 146, 3) := by decide +kernel
theorem dX8_innerCorners_17 : decode cX8_innerCorners 17 = .ok (.goto 4, 3) := by decide +kernel
theorem dX8_innerCorners_20 : decode cX8_innerCorners 20 = .ok (.iconst (-1), 1) := by decide +kernel
theorem dX8_innerCorners_21 : decode cX8_innerCorners 21 = .ok (.ireturn, 1) := by decide +kernel
theorem dX8_holes_0 : decode cX8_holes 0 = .ok (.aload_n 0, 1) := by decide +kernel
theorem dX8_holes_1 : decode cX8_holes 1 = .ok (.iload_n 1, 1) := by decide +kernel
theorem dX8_holes_2 : decode cX8_holes 2 = .ok (.invokevirtual 156, 3) := by decide +kernel
theorem dX8_holes_5 : decode cX8_holes 5 = .ok (.ifCond .eq 15, 3) := by decide +kernel
theorem dX8_holes_8 : decode cX8_holes 8 = .ok (.aload_n 0, 1) := by decide +kernel
theorem dX8_holes_9 : decode cX8_holes 9 = .ok (.aload_n 0, 1) := by decide +kernel
theorem dX8_holes_10 : decode cX8_holes 10 = .ok (.getfield 25, 3) := by decide +kernel
theorem dX8_holes_13 : decode cX8_holes 13 = .ok (.iload_n 1, 1) := by decide +kernel
theorem dX8_holes_14 : decode cX8_holes 14 = .ok (.invokevirtual 150, 3) := by decide +kernel
theorem dX8_holes_17 : decode cX8_holes 17 = .ok (.goto 4, 3) := by decide +kernel
theorem dX8_holes_20 : decode cX8_holes 20 = .ok (.iconst (-1), 1) := by decide +kernel
theorem dX8_holes_21 : decode cX8_holes 21 = .ok (.ireturn, 1) := by decide +kernel
theorem dX8_canBeCut_0 : decode cX8_canBeCut 0 = .ok (.aload_n 0, 1) := by decide +kernel
theorem dX8_canBeCut_1 : decode cX8_canBeCut 1 = .ok (.iload_n 1, 1) := by decide +kernel
theorem dX8_canBeCut_2 : decode cX8_canBeCut 2 = .ok (.invokevirtual 156, 3) := by decide +kernel
theorem dX8_canBeCut_5 : decode cX8_canBeCut 5 = .ok (.ifCond .ne 7, 3) := by decide +kernel
theorem dX8_canBeCut_8 : decode cX8_canBeCut 8 = .ok (.iconst (-1), 1) := by decide +kernel
theorem dX8_canBeCut_9 : decode cX8_canBeCut 9 = .ok (.goto 16, 3) := by decide +kernel
theorem dX8_canBeCut_12 : decode cX8_canBeCut 12 = .ok (.aload_n 0, 1) := by decide +kernel
theorem dX8_canBeCut_13 : decode cX8_canBeCut 13 = .ok (.iload_n 1, 1) := by decide +kernel
theorem dX8_canBeCut_14 : decode cX8_canBeCut 14 = .ok (.invokevirtual 159, 3) := by decide +kernel
theorem dX8_canBeCut_17 : decode cX8_canBeCut 17 = .ok (.ifCond .eq 7, 3) := by decide +kernel
theorem dX8_canBeCut_20 : decode cX8_canBeCut 20 = .ok (.iconst 1, 1) := by decide +kernel
theorem dX8_canBeCut_21 : decode cX8_canBeCut 21 = .ok (.goto 4, 3) := by decide +kernel
theorem dX8_canBeCut_24 : decode cX8_canBeCut 24 = .ok (.iconst 0, 1) := by decide +kernel
theorem dX8_canBeCut_25 : decode cX8_canBeCut 25 = .ok (.ireturn, 1) := by decide +kernel
theorem dX8_cuttableCount_0 : decode cX8_cuttableCount 0 = .ok (.aload_n 0, 1) := by decide +kernel
theorem dX8_cuttableCount_1 : decode cX8_cuttableCount 1 = .ok (.invokevirtual 89, 3) := by decide +kernel
theorem dX8_cuttableCount_4 : decode cX8_cuttableCount 4 = .ok (.iconst 0, 1) := by decide +kernel
theorem dX8_cuttableCount_5 : decode cX8_cuttableCount 5 = .ok (.istore_n 1, 1) := by decide +kernel
theorem dX8_cuttableCount_6 : decode cX8_cuttableCount 6 = .ok (.iconst 0, 1) := by decide +kernel
theorem dX8_cuttableCount_7 : decode cX8_cuttableCount 7 = .ok (.istore_n 2, 1) := by decide +kernel
theorem dX8_cuttableCount_8 : decode cX8_cuttableCount 8 = .ok (.iload_n 2, 1) := by decide +kernel
theorem dX8_cuttableCount_9 : decode cX8_cuttableCount 9 = .ok (.aload_n 0, 1) := by decide +kernel
theorem dX8_cuttableCount_10 : decode cX8_cuttableCount 10 = .ok (.getfield 92, 3) := by decide +kernel
theorem dX8_cuttableCount_13 : decode cX8_cuttableCount 13 = .ok (.if_icmp .ge 25, 3) := by decide +kernel
theorem dX8_cuttableCount_16 : decode cX8_cuttableCount 16 = .ok (.iload_n 1, 1) := by decide +kernel
theorem dX8_cuttableCount_17 : decode cX8_cuttableCount 17 = .ok (.aload_n 0, 1) := by decide +kernel
theorem dX8_cuttableCount_18 : decode cX8_cuttableCount 18 = .ok (.iload_n 2, 1) := by decide +kernel
theorem dX8_cuttableCount_19 : decode cX8_cuttableCount 19 = .ok (.invokevirtual 159, 3) := by decide +kernel
theorem dX8_cuttableCount_22 : decode cX8_cuttableCount 22 = .ok (.ifCond .eq 7, 3) := by decide +kernel
theorem dX8_cuttableCount_25 : decode cX8_cuttableCount 25 = .ok (.iconst 1, 1) := by decide +kernel
theorem dX8_cuttableCount_26 : decode cX8_cuttableCount 26 = .ok (.goto 4, 3) := by decide +kernel
theorem dX8_cuttableCount_29 : decode cX8_cuttableCount 29 = .ok (.iconst 0, 1) := by decide +kernel
theorem dX8_cuttableCount_30 : decode cX8_cuttableCount 30 = .ok (.iadd, 1) := by decide +kernel
theorem dX8_cuttableCount_31 : decode cX8_cuttableCount 31 = .ok (.istore_n 1, 1) := by decide +kernel
theorem dX8_cuttableCount_32 : decode cX8_cuttableCount 32 = .ok (.iinc 2 1, 3) := by decide +kernel
theorem dX8_cuttableCount_35 : decode cX8_cuttableCount 35 = .ok (.goto (-27), 3) := by decide +kernel
theorem dX8_cuttableCount_38 : decode cX8_cuttableCount 38 = .ok (.iload_n 1, 1) := by decide +kernel
theorem dX8_cuttableCount_39 : decode cX8_cuttableCount 39 = .ok (.ireturn, 1) := by decide +kernel
theorem dX8_isLoose_0 : decode cX8_isLoose 0 = .ok (.iload_n 1, 1) := by decide +kernel
theorem dX8_isLoose_1 : decode cX8_isLoose 1 = .ok (.bipush 49, 2) := by decide +kernel
theorem dX8_isLoose_3 : decode cX8_isLoose 3 = .ok (.irem, 1) := by decide +kernel
theorem dX8_isLoose_4 : decode cX8_isLoose 4 = .ok (.istore_n 2, 1) := by decide +kernel
theorem dX8_isLoose_5 : decode cX8_isLoose 5 = .ok (.aload_n 0, 1) := by decide +kernel
theorem dX8_isLoose_6 : decode cX8_isLoose 6 = .ok (.getfield 7, 3) := by decide +kernel
theorem dX8_isLoose_9 : decode cX8_isLoose 9 = .ok (.bipush 53, 2) := by decide +kernel
theorem dX8_isLoose_11 : decode cX8_isLoose 11 = .ok (.iload_n 1, 1) := by decide +kernel
theorem dX8_isLoose_12 : decode cX8_isLoose 12 = .ok (.iadd, 1) := by decide +kernel
theorem dX8_isLoose_13 : decode cX8_isLoose 13 = .ok (.iaload, 1) := by decide +kernel
theorem dX8_isLoose_14 : decode cX8_isLoose 14 = .ok (.iconst 1, 1) := by decide +kernel
theorem dX8_isLoose_15 : decode cX8_isLoose 15 = .ok (.if_icmp .ne 30, 3) := by decide +kernel
theorem dX8_isLoose_18 : decode cX8_isLoose 18 = .ok (.aload_n 0, 1) := by decide +kernel
theorem dX8_isLoose_19 : decode cX8_isLoose 19 = .ok (.getfield 25, 3) := by decide +kernel
theorem dX8_isLoose_22 : decode cX8_isLoose 22 = .ok (.iload_n 2, 1) := by decide +kernel
theorem dX8_isLoose_23 : decode cX8_isLoose 23 = .ok (.iaload, 1) := by decide +kernel
theorem dX8_isLoose_24 : decode cX8_isLoose 24 = .ok (.aload_n 0, 1) := by decide +kernel
theorem dX8_isLoose_25 : decode cX8_isLoose 25 = .ok (.getfield 25, 3) := by decide +kernel
theorem dX8_isLoose_28 : decode cX8_isLoose 28 = .ok (.iload_n 2, 1) := by decide +kernel
theorem dX8_isLoose_29 : decode cX8_isLoose 29 = .ok (.iload_n 1, 1) := by decide +kernel
theorem dX8_isLoose_30 : decode cX8_isLoose 30 = .ok (.bipush 49, 2) := by decide +kernel
theorem dX8_isLoose_32 : decode cX8_isLoose 32 = .ok (.idiv, 1) := by decide +kernel
theorem dX8_isLoose_33 : decode cX8_isLoose 33 = .ok (.invokestatic 106, 3) := by decide +kernel
theorem dX8_isLoose_36 : decode cX8_isLoose 36 = .ok (.iadd, 1) := by decide +kernel
theorem dX8_isLoose_37 : decode cX8_isLoose 37 = .ok (.iaload, 1) := by decide +kernel
theorem dX8_isLoose_38 : decode cX8_isLoose 38 = .ok (.if_icmp .ne 7, 3) := by decide +kernel
theorem dX8_isLoose_41 : decode cX8_isLoose 41 = .ok (.iconst 1, 1) := by decide +kernel
theorem dX8_isLoose_42 : decode cX8_isLoose 42 = .ok (.goto 4, 3) := by decide +kernel
theorem dX8_isLoose_45 : decode cX8_isLoose 45 = .ok (.iconst 0, 1) := by decide +kernel
theorem dX8_isLoose_46 : decode cX8_isLoose 46 = .ok (.ireturn, 1) := by decide +kernel
theorem dX8_looseCuts_0 : decode cX8_looseCuts 0 = .ok (.aload_n 0, 1) := by decide +kernel
theorem dX8_looseCuts_1 : decode cX8_looseCuts 1 = .ok (.invokevirtual 89, 3) := by decide +kernel
theorem dX8_looseCuts_4 : decode cX8_looseCuts 4 = .ok (.iconst 0, 1) := by decide +kernel
theorem dX8_looseCuts_5 : decode cX8_looseCuts 5 = .ok (.istore_n 1, 1) := by decide +kernel
theorem dX8_looseCuts_6 : decode cX8_looseCuts 6 = .ok (.iconst 0, 1) := by decide +kernel
theorem dX8_looseCuts_7 : decode cX8_looseCuts 7 = .ok (.istore_n 2, 1) := by decide +kernel
theorem dX8_looseCuts_8 : decode cX8_looseCuts 8 = .ok (.iload_n 2, 1) := by decide +kernel
theorem dX8_looseCuts_9 : decode cX8_looseCuts 9 = .ok (.bipush 98, 2) := by decide +kernel
theorem dX8_looseCuts_11 : decode cX8_looseCuts 11 = .ok (.if_icmp .ge 25, 3) := by decide +kernel
theorem dX8_looseCuts_14 : decode cX8_looseCuts 14 = .ok (.iload_n 1, 1) := by decide +kernel
theorem dX8_looseCuts_15 : decode cX8_looseCuts 15 = .ok (.aload_n 0, 1) := by decide +kernel
theorem dX8_looseCuts_16 : decode cX8_looseCuts 16 = .ok (.iload_n 2, 1) := by decide +kernel
theorem dX8_looseCuts_17 : decode cX8_looseCuts 17 = .ok (.invokevirtual 162, 3) := by decide +kernel
theorem dX8_looseCuts_20 : decode cX8_looseCuts 20 = .ok (.ifCond .eq 7, 3) := by decide +kernel
theorem dX8_looseCuts_23 : decode cX8_looseCuts 23 = .ok (.iconst 1, 1) := by decide +kernel
theorem dX8_looseCuts_24 : decode cX8_looseCuts 24 = .ok (.goto 4, 3) := by decide +kernel
theorem dX8_looseCuts_27 : decode cX8_looseCuts 27 = .ok (.iconst 0, 1) := by decide +kernel
theorem dX8_looseCuts_28 : decode cX8_looseCuts 28 = .ok (.iadd, 1) := by decide +kernel
theorem dX8_looseCuts_29 : decode cX8_looseCuts 29 = .ok (.istore_n 1, 1) := by decide +kernel
theorem dX8_looseCuts_30 : decode cX8_looseCuts 30 = .ok (.iinc 2 1, 3) := by decide +kernel
theorem dX8_looseCuts_33 : decode cX8_looseCuts 33 = .ok (.goto (-25), 3) := by decide +kernel
theorem dX8_looseCuts_36 : decode cX8_looseCuts 36 = .ok (.iload_n 1, 1) := by decide +kernel
theorem dX8_looseCuts_37 : decode cX8_looseCuts 37 = .ok (.ireturn, 1) := by decide +kernel
theorem dX8_removeLooseCuts_0 : decode cX8_removeLooseCuts 0 = .ok (.aload_n 0, 1) := by decide +kernel
theorem dX8_removeLooseCuts_1 : decode cX8_removeLooseCuts 1 = .ok (.invokevirtual 165, 3) := by decide +kernel
theorem dX8_removeLooseCuts_4 : decode cX8_removeLooseCuts 4 = .ok (.istore_n 1, 1) := by decide +kernel
theorem dX8_removeLooseCuts_5 : decode cX8_removeLooseCuts 5 = .ok (.iload_n 1, 1) := by decide +kernel
theorem dX8_removeLooseCuts_6 : decode cX8_removeLooseCuts 6 = .ok (.ifCond .ne 6, 3) := by decide +kernel
theorem dX8_removeLooseCuts_9 : decode cX8_removeLooseCuts 9 = .ok (.bipush (-2), 2) := by decide +kernel
theorem dX8_removeLooseCuts_11 : decode cX8_removeLooseCuts 11 = .ok (.ireturn, 1) := by decide +kernel
theorem dX8_removeLooseCuts_12 : decode cX8_removeLooseCuts 12 = .ok (.aload_n 0, 1) := by decide +kernel
theorem dX8_removeLooseCuts_13 : decode cX8_removeLooseCuts 13 = .ok (.invokevirtual 73, 3) := by decide +kernel
theorem dX8_removeLooseCuts_16 : decode cX8_removeLooseCuts 16 = .ok (.iconst 0, 1) := by decide +kernel
theorem dX8_removeLooseCuts_17 : decode cX8_removeLooseCuts 17 = .ok (.istore_n 2, 1) := by decide +kernel
theorem dX8_removeLooseCuts_18 : decode cX8_removeLooseCuts 18 = .ok (.iload_n 2, 1) := by decide +kernel
theorem dX8_removeLooseCuts_19 : decode cX8_removeLooseCuts 19 = .ok (.bipush 98, 2) := by decide +kernel
theorem dX8_removeLooseCuts_21 : decode cX8_removeLooseCuts 21 = .ok (.if_icmp .ge 39, 3) := by decide +kernel
theorem dX8_removeLooseCuts_24 : decode cX8_removeLooseCuts 24 = .ok (.aload_n 0, 1) := by decide +kernel
theorem dX8_removeLooseCuts_25 : decode cX8_removeLooseCuts 25 = .ok (.getfield 7, 3) := by decide +kernel
theorem dX8_removeLooseCuts_28 : decode cX8_removeLooseCuts 28 = .ok (.bipush 53, 2) := by decide +kernel
theorem dX8_removeLooseCuts_30 : decode cX8_removeLooseCuts 30 = .ok (.iload_n 2, 1) := by decide +kernel
theorem dX8_removeLooseCuts_31 : decode cX8_removeLooseCuts 31 = .ok (.iadd, 1) := by decide +kernel
theorem dX8_removeLooseCuts_32 : decode cX8_removeLooseCuts 32 = .ok (.aload_n 0, 1) := by decide +kernel
theorem dX8_removeLooseCuts_33 : decode cX8_removeLooseCuts 33 = .ok (.iload_n 2, 1) := by decide +kernel
theorem dX8_removeLooseCuts_34 : decode cX8_removeLooseCuts 34 = .ok (.invokevirtual 162, 3) := by decide +kernel
theorem dX8_removeLooseCuts_37 : decode cX8_removeLooseCuts 37 = .ok (.ifCond .eq 7, 3) := by decide +kernel
theorem dX8_removeLooseCuts_40 : decode cX8_removeLooseCuts 40 = .ok (.iconst 0, 1) := by decide +kernel
theorem dX8_removeLooseCuts_41 : decode cX8_removeLooseCuts 41 = .ok (.goto 12, 3) := by decide +kernel
theorem dX8_removeLooseCuts_44 : decode cX8_removeLooseCuts 44 = .ok (.aload_n 0, 1) := by decide +kernel
theorem dX8_removeLooseCuts_45 : decode cX8_removeLooseCuts 45 = .ok (.getfield 7, 3) := by decide +kernel
theorem dX8_removeLooseCuts_48 : decode cX8_removeLooseCuts 48 = .ok (.bipush 53, 2) := by decide +kernel
theorem dX8_removeLooseCuts_50 : decode cX8_removeLooseCuts 50 = .ok (.iload_n 2, 1) := by decide +kernel
theorem dX8_removeLooseCuts_51 : decode cX8_removeLooseCuts 51 = .ok (.iadd, 1) := by decide +kernel
theorem dX8_removeLooseCuts_52 : decode cX8_removeLooseCuts 52 = .ok (.iaload, 1) := by decide +kernel
theorem dX8_removeLooseCuts_53 : decode cX8_removeLooseCuts 53 = .ok (.iastore, 1) := by decide +kernel
theorem dX8_removeLooseCuts_54 : decode cX8_removeLooseCuts 54 = .ok (.iinc 2 1, 3) := by decide +kernel
theorem dX8_removeLooseCuts_57 : decode cX8_removeLooseCuts 57 = .ok (.goto (-39), 3) := by decide +kernel
theorem dX8_removeLooseCuts_60 : decode cX8_removeLooseCuts 60 = .ok (.iload_n 1, 1) := by decide +kernel
theorem dX8_removeLooseCuts_61 : decode cX8_removeLooseCuts 61 = .ok (.ireturn, 1) := by decide +kernel
theorem dX8_findNear_0 : decode cX8_findNear 0 = .ok (.aload_n 0, 1) := by decide +kernel
theorem dX8_findNear_1 : decode cX8_findNear 1 = .ok (.invokevirtual 89, 3) := by decide +kernel
theorem dX8_findNear_4 : decode cX8_findNear 4 = .ok (.iconst 0, 1) := by decide +kernel
theorem dX8_findNear_5 : decode cX8_findNear 5 = .ok (.istore_n 1, 1) := by decide +kernel
theorem dX8_findNear_6 : decode cX8_findNear 6 = .ok (.iload_n 1, 1) := by decide +kernel
theorem dX8_findNear_7 : decode cX8_findNear 7 = .ok (.sipush 2401, 3) := by decide +kernel
theorem dX8_findNear_10 : decode cX8_findNear 10 = .ok (.if_icmp .ge 16, 3) := by decide +kernel
theorem dX8_findNear_13 : decode cX8_findNear 13 = .ok (.aload_n 0, 1) := by decide +kernel
theorem dX8_findNear_14 : decode cX8_findNear 14 = .ok (.getfield 38, 3) := by decide +kernel
theorem dX8_findNear_17 : decode cX8_findNear 17 = .ok (.iload_n 1, 1) := by decide +kernel
theorem dX8_findNear_18 : decode cX8_findNear 18 = .ok (.iconst 0, 1) := by decide +kernel
theorem dX8_findNear_19 : decode cX8_findNear 19 = .ok (.bastore, 1) := by decide +kernel
theorem dX8_findNear_20 : decode cX8_findNear 20 = .ok (.iinc 1 1, 3) := by decide +kernel
theorem dX8_findNear_23 : decode cX8_findNear 23 = .ok (.goto (-17), 3) := by decide +kernel
theorem dX8_findNear_26 : decode cX8_findNear 26 = .ok (.iconst 0, 1) := by decide +kernel
theorem dX8_findNear_27 : decode cX8_findNear 27 = .ok (.istore_n 1, 1) := by decide +kernel
theorem dX8_findNear_28 : decode cX8_findNear 28 = .ok (.iconst 0, 1) := by decide +kernel
theorem dX8_findNear_29 : decode cX8_findNear 29 = .ok (.istore_n 2, 1) := by decide +kernel
theorem dX8_findNear_30 : decode cX8_findNear 30 = .ok (.iload_n 2, 1) := by decide +kernel
theorem dX8_findNear_31 : decode cX8_findNear 31 = .ok (.bipush 98, 2) := by decide +kernel
theorem dX8_findNear_33 : decode cX8_findNear 33 = .ok (.if_icmp .ge 130, 3) := by decide +kernel
theorem dX8_findNear_36 : decode cX8_findNear 36 = .ok (.iload_n 2, 1) := by decide +kernel
theorem dX8_findNear_37 : decode cX8_findNear 37 = .ok (.bipush 49, 2) := by decide +kernel
theorem dX8_findNear_39 : decode cX8_findNear 39 = .ok (.irem, 1) := by decide +kernel
theorem dX8_findNear_40 : decode cX8_findNear 40 = .ok (.istore_n 3, 1) := by decide +kernel
theorem dX8_findNear_41 : decode cX8_findNear 41 = .ok (.aload_n 0, 1) := by decide +kernel
theorem dX8_findNear_42 : decode cX8_findNear 42 = .ok (.iload_n 3, 1) := by decide +kernel
theorem dX8_findNear_43 : decode cX8_findNear 43 = .ok (.bipush 7, 2) := by decide +kernel
theorem dX8_findNear_45 : decode cX8_findNear 45 = .ok (.idiv, 1) := by decide +kernel
theorem dX8_findNear_46 : decode cX8_findNear 46 = .ok (.iload_n 3, 1) := by decide +kernel
theorem dX8_findNear_47 : decode cX8_findNear 47 = .ok (.bipush 7, 2) := by decide +kernel
theorem dX8_findNear_49 : decode cX8_findNear 49 = .ok (.irem, 1) := by decide +kernel
theorem dX8_findNear_50 : decode cX8_findNear 50 = .ok (.invokevirtual 95, 3) := by decide +kernel
theorem dX8_findNear_53 : decode cX8_findNear 53 = .ok (.ifCond .eq 104, 3) := by decide +kernel
theorem dX8_findNear_56 : decode cX8_findNear 56 = .ok (.aload_n 0, 1) := by decide +kernel
theorem dX8_findNear_57 : decode cX8_findNear 57 = .ok (.iload_n 3, 1) := by decide +kernel
theorem dX8_findNear_58 : decode cX8_findNear 58 = .ok (.iload_n 2, 1) := by decide +kernel
theorem dX8_findNear_59 : decode cX8_findNear 59 = .ok (.bipush 49, 2) := by decide +kernel
theorem dX8_findNear_61 : decode cX8_findNear 61 = .ok (.idiv, 1) := by decide +kernel
theorem dX8_findNear_62 : decode cX8_findNear 62 = .ok (.invokevirtual 103, 3) := by decide +kernel
theorem dX8_findNear_65 : decode cX8_findNear 65 = .ok (.ifCond .eq 92, 3) := by decide +kernel
theorem dX8_findNear_68 : decode cX8_findNear 68 = .ok (.aload_n 0, 1) := by decide +kernel
theorem dX8_findNear_69 : decode cX8_findNear 69 = .ok (.getfield 25, 3) := by decide +kernel
theorem dX8_findNear_72 : decode cX8_findNear 72 = .ok (.iload_n 3, 1) := by decide +kernel
theorem dX8_findNear_73 : decode cX8_findNear 73 = .ok (.iaload, 1) := by decide +kernel
theorem dX8_findNear_74 : decode cX8_findNear 74 = .ok (.istore 4, 2) := by decide +kernel
theorem dX8_findNear_76 : decode cX8_findNear 76 = .ok (.aload_n 0, 1) := by decide +kernel
theorem dX8_findNear_77 : decode cX8_findNear 77 = .ok (.getfield 25, 3) := by decide +kernel
theorem dX8_findNear_80 : decode cX8_findNear 80 = .ok (.iload_n 3, 1) := by decide +kernel
theorem dX8_findNear_81 : decode cX8_findNear 81 = .ok (.iload_n 2, 1) := by decide +kernel
theorem dX8_findNear_82 : decode cX8_findNear 82 = .ok (.bipush 49, 2) := by decide +kernel
theorem dX8_findNear_84 : decode cX8_findNear 84 = .ok (.idiv, 1) := by decide +kernel
theorem dX8_findNear_85 : decode cX8_findNear 85 = .ok (.invokestatic 106, 3) := by decide +kernel
theorem dX8_findNear_88 : decode cX8_findNear 88 = .ok (.iadd, 1) := by decide +kernel
theorem dX8_findNear_89 : decode cX8_findNear 89 = .ok (.iaload, 1) := by decide +kernel
theorem dX8_findNear_90 : decode cX8_findNear 90 = .ok (.istore 5, 2) := by decide +kernel
theorem dX8_findNear_92 : decode cX8_findNear 92 = .ok (.iload_n 1, 1) := by decide +kernel
theorem dX8_findNear_93 : decode cX8_findNear 93 = .ok (.iload 4, 2) := by decide +kernel
theorem dX8_findNear_95 : decode cX8_findNear 95 = .ok (.iload 5, 2) := by decide +kernel
theorem dX8_findNear_97 : decode cX8_findNear 97 = .ok (.if_icmp .eq 7, 3) := by decide +kernel
theorem dX8_findNear_100 : decode cX8_findNear 100 = .ok (.iconst 1, 1) := by decide +kernel
theorem dX8_findNear_101 : decode cX8_findNear 101 = .ok (.goto 4, 3) := by decide +kernel
theorem dX8_findNear_104 : decode cX8_findNear 104 = .ok (.iconst 0, 1) := by decide +kernel
theorem dX8_findNear_105 : decode cX8_findNear 105 = .ok (.iadd, 1) := by decide +kernel
theorem dX8_findNear_106 : decode cX8_findNear 106 = .ok (.istore_n 1, 1) := by decide +kernel
theorem dX8_findNear_107 : decode cX8_findNear 107 = .ok (.aload_n 0, 1) := by decide +kernel
theorem dX8_findNear_108 : decode cX8_findNear 108 = .ok (.getfield 38, 3) := by decide +kernel
theorem dX8_findNear_111 : decode cX8_findNear 111 = .ok (.bipush 49, 2) := by decide +kernel
theorem dX8_findNear_113 : decode cX8_findNear 113 = .ok (.iload 4, 2) := by decide +kernel
theorem dX8_findNear_115 : decode cX8_findNear 115 = .ok (.imul, 1) := by decide +kernel
theorem dX8_findNear_116 : decode cX8_findNear 116 = .ok (.iload 5, 2) := by decide +kernel
theorem dX8_findNear_118 : decode cX8_findNear 118 = .ok (.iadd, 1) := by decide +kernel
theorem dX8_findNear_119 : decode cX8_findNear 119 = .ok (.iload 4, 2) := by decide +kernel
theorem dX8_findNear_121 : decode cX8_findNear 121 = .ok (.iload 5, 2) := by decide +kernel
theorem dX8_findNear_123 : decode cX8_findNear 123 = .ok (.if_icmp .eq 7, 3) := by decide +kernel
theorem dX8_findNear_126 : decode cX8_findNear 126 = .ok (.iconst 1, 1) := by decide +kernel
theorem dX8_findNear_127 : decode cX8_findNear 127 = .ok (.goto 4, 3) := by decide +kernel
theorem dX8_findNear_130 : decode cX8_findNear 130 = .ok (.iconst 0, 1) := by decide +kernel
theorem dX8_findNear_131 : decode cX8_findNear 131 = .ok (.bastore, 1) := by decide +kernel
theorem dX8_findNear_132 : decode cX8_findNear 132 = .ok (.aload_n 0, 1) := by decide +kernel
theorem dX8_findNear_133 : decode cX8_findNear 133 = .ok (.getfield 38, 3) := by decide +kernel
theorem dX8_findNear_136 : decode cX8_findNear 136 = .ok (.bipush 49, 2) := by decide +kernel
theorem dX8_findNear_138 : decode cX8_findNear 138 = .ok (.iload 5, 2) := by decide +kernel
theorem dX8_findNear_140 : decode cX8_findNear 140 = .ok (.imul, 1) := by decide +kernel
theorem dX8_findNear_141 : decode cX8_findNear 141 = .ok (.iload 4, 2) := by decide +kernel
theorem dX8_findNear_143 : decode cX8_findNear 143 = .ok (.iadd, 1) := by decide +kernel
theorem dX8_findNear_144 : decode cX8_findNear 144 = .ok (.iload 4, 2) := by decide +kernel
theorem dX8_findNear_146 : decode cX8_findNear 146 = .ok (.iload 5, 2) := by decide +kernel
theorem dX8_findNear_148 : decode cX8_findNear 148 = .ok (.if_icmp .eq 7, 3) := by decide +kernel
theorem dX8_findNear_151 : decode cX8_findNear 151 = .ok (.iconst 1, 1) := by decide +kernel
theorem dX8_findNear_152 : decode cX8_findNear 152 = .ok (.goto 4, 3) := by decide +kernel
theorem dX8_findNear_155 : decode cX8_findNear 155 = .ok (.iconst 0, 1) := by decide +kernel
theorem dX8_findNear_156 : decode cX8_findNear 156 = .ok (.bastore, 1) := by decide +kernel
theorem dX8_findNear_157 : decode cX8_findNear 157 = .ok (.iinc 2 1, 3) := by decide +kernel
theorem dX8_findNear_160 : decode cX8_findNear 160 = .ok (.goto (-130), 3) := by decide +kernel
theorem dX8_findNear_163 : decode cX8_findNear 163 = .ok (.iconst 0, 1) := by decide +kernel
theorem dX8_findNear_164 : decode cX8_findNear 164 = .ok (.istore_n 2, 1) := by decide +kernel
theorem dX8_findNear_165 : decode cX8_findNear 165 = .ok (.iload_n 2, 1) := by decide +kernel
theorem dX8_findNear_166 : decode cX8_findNear 166 = .ok (.aload_n 0, 1) := by decide +kernel
theorem dX8_findNear_167 : decode cX8_findNear 167 = .ok (.getfield 92, 3) := by decide +kernel
theorem dX8_findNear_170 : decode cX8_findNear 170 = .ok (.if_icmp .ge 60, 3) := by decide +kernel
theorem dX8_findNear_173 : decode cX8_findNear 173 = .ok (.aload_n 0, 1) := by decide +kernel
theorem dX8_findNear_174 : decode cX8_findNear 174 = .ok (.getfield 41, 3) := by decide +kernel
theorem dX8_findNear_177 : decode cX8_findNear 177 = .ok (.iload_n 2, 1) := by decide +kernel
theorem dX8_findNear_178 : decode cX8_findNear 178 = .ok (.iconst 0, 1) := by decide +kernel
theorem dX8_findNear_179 : decode cX8_findNear 179 = .ok (.iastore, 1) := by decide +kernel
theorem dX8_findNear_180 : decode cX8_findNear 180 = .ok (.iconst 0, 1) := by decide +kernel
theorem dX8_findNear_181 : decode cX8_findNear 181 = .ok (.istore_n 3, 1) := by decide +kernel
theorem dX8_findNear_182 : decode cX8_findNear 182 = .ok (.iload_n 3, 1) := by decide +kernel
theorem dX8_findNear_183 : decode cX8_findNear 183 = .ok (.aload_n 0, 1) := by decide +kernel
theorem dX8_findNear_184 : decode cX8_findNear 184 = .ok (.getfield 92, 3) := by decide +kernel
theorem dX8_findNear_187 : decode cX8_findNear 187 = .ok (.if_icmp .ge 37, 3) := by decide +kernel
theorem dX8_findNear_190 : decode cX8_findNear 190 = .ok (.aload_n 0, 1) := by decide +kernel
theorem dX8_findNear_191 : decode cX8_findNear 191 = .ok (.getfield 41, 3) := by decide +kernel
theorem dX8_findNear_194 : decode cX8_findNear 194 = .ok (.iload_n 2, 1) := by decide +kernel
theorem dX8_findNear_195 : decode cX8_findNear 195 = .ok (.dup2, 1) := by decide +kernel
theorem dX8_findNear_196 : decode cX8_findNear 196 = .ok (.iaload, 1) := by decide +kernel
theorem dX8_findNear_197 : decode cX8_findNear 197 = .ok (.aload_n 0, 1) := by decide +kernel
theorem dX8_findNear_198 : decode cX8_findNear 198 = .ok (.getfield 38, 3) := by decide +kernel
theorem dX8_findNear_201 : decode cX8_findNear 201 = .ok (.bipush 49, 2) := by decide +kernel
theorem dX8_findNear_203 : decode cX8_findNear 203 = .ok (.iload_n 2, 1) := by decide +kernel
theorem dX8_findNear_204 : decode cX8_findNear 204 = .ok (.imul, 1) := by decide +kernel
theorem dX8_findNear_205 : decode cX8_findNear 205 = .ok (.iload_n 3, 1) := by decide +kernel
theorem dX8_findNear_206 : decode cX8_findNear 206 = .ok (.iadd, 1) := by decide +kernel
theorem dX8_findNear_207 : decode cX8_findNear 207 = .ok (.baload, 1) := by decide +kernel
theorem dX8_findNear_208 : decode cX8_findNear 208 = .ok (.ifCond .eq 7, 3) := by decide +kernel
theorem dX8_findNear_211 : decode cX8_findNear 211 = .ok (.iconst 1, 1) := by decide +kernel
theorem dX8_findNear_212 : decode cX8_findNear 212 = .ok (.goto 4, 3) := by decide +kernel
theorem dX8_findNear_215 : decode cX8_findNear 215 = .ok (.iconst 0, 1) := by decide +kernel
theorem dX8_findNear_216 : decode cX8_findNear 216 = .ok (.iadd, 1) := by decide +kernel
theorem dX8_findNear_217 : decode cX8_findNear 217 = .ok (.iastore, 1) := by decide +kernel
theorem dX8_findNear_218 : decode cX8_findNear 218 = .ok (.iinc 3 1, 3) := by decide +kernel
theorem dX8_findNear_221 : decode cX8_findNear 221 = .ok (.goto (-39), 3) := by decide +kernel
theorem dX8_findNear_224 : decode cX8_findNear 224 = .ok (.iinc 2 1, 3) := by decide +kernel
theorem dX8_findNear_227 : decode cX8_findNear 227 = .ok (.goto (-62), 3) := by decide +kernel
theorem dX8_findNear_230 : decode cX8_findNear 230 = .ok (.iload_n 1, 1) := by decide +kernel
theorem dX8_findNear_231 : decode cX8_findNear 231 = .ok (.ireturn, 1) := by decide +kernel
theorem dX8_neighbourCount_0 : decode cX8_neighbourCount 0 = .ok (.aload_n 0, 1) := by decide +kernel
theorem dX8_neighbourCount_1 : decode cX8_neighbourCount 1 = .ok (.invokevirtual 168, 3) := by decide +kernel
theorem dX8_neighbourCount_4 : decode cX8_neighbourCount 4 = .ok (.istore_n 2, 1) := by decide +kernel
theorem dX8_neighbourCount_5 : decode cX8_neighbourCount 5 = .ok (.iload_n 1, 1) := by decide +kernel
theorem dX8_neighbourCount_6 : decode cX8_neighbourCount 6 = .ok (.iconst 0, 1) := by decide +kernel
theorem dX8_neighbourCount_7 : decode cX8_neighbourCount 7 = .ok (.aload_n 0, 1) := by decide +kernel
theorem dX8_neighbourCount_8 : decode cX8_neighbourCount 8 = .ok (.getfield 92, 3) := by decide +kernel
theorem dX8_neighbourCount_11 : decode cX8_neighbourCount 11 = .ok (.iconst 1, 1) := by decide +kernel
theorem dX8_neighbourCount_12 : decode cX8_neighbourCount 12 = .ok (.isub, 1) := by decide +kernel
theorem dX8_neighbourCount_13 : decode cX8_neighbourCount 13 = .ok (.invokestatic 65, 3) := by decide +kernel
theorem dX8_neighbourCount_16 : decode cX8_neighbourCount 16 = .ok (.ifCond .eq 12, 3) := by decide +kernel
theorem dX8_neighbourCount_19 : decode cX8_neighbourCount 19 = .ok (.aload_n 0, 1) := by decide +kernel
theorem dX8_neighbourCount_20 : decode cX8_neighbourCount 20 = .ok (.getfield 41, 3) := by decide +kernel
theorem dX8_neighbourCount_23 : decode cX8_neighbourCount 23 = .ok (.iload_n 1, 1) := by decide +kernel
theorem dX8_neighbourCount_24 : decode cX8_neighbourCount 24 = .ok (.iaload, 1) := by decide +kernel
theorem dX8_neighbourCount_25 : decode cX8_neighbourCount 25 = .ok (.goto 4, 3) := by decide +kernel
theorem dX8_neighbourCount_28 : decode cX8_neighbourCount 28 = .ok (.iconst (-1), 1) := by decide +kernel
theorem dX8_neighbourCount_29 : decode cX8_neighbourCount 29 = .ok (.ireturn, 1) := by decide +kernel
theorem dX8_leadLength_0 : decode cX8_leadLength 0 = .ok (.aload_n 0, 1) := by decide +kernel
theorem dX8_leadLength_1 : decode cX8_leadLength 1 = .ok (.invokevirtual 168, 3) := by decide +kernel
theorem dX8_leadLength_4 : decode cX8_leadLength 4 = .ok (.ireturn, 1) := by decide +kernel
theorem dX8_setCellLimit_0 : decode cX8_setCellLimit 0 = .ok (.iload_n 1, 1) := by decide +kernel
theorem dX8_setCellLimit_1 : decode cX8_setCellLimit 1 = .ok (.iconst 1, 1) := by decide +kernel
theorem dX8_setCellLimit_2 : decode cX8_setCellLimit 2 = .ok (.bipush 49, 2) := by decide +kernel
theorem dX8_setCellLimit_4 : decode cX8_setCellLimit 4 = .ok (.invokestatic 65, 3) := by decide +kernel
theorem dX8_setCellLimit_7 : decode cX8_setCellLimit 7 = .ok (.ifCond .eq 12, 3) := by decide +kernel
theorem dX8_setCellLimit_10 : decode cX8_setCellLimit 10 = .ok (.aload_n 0, 1) := by decide +kernel
theorem dX8_setCellLimit_11 : decode cX8_setCellLimit 11 = .ok (.iconst 2, 1) := by decide +kernel
theorem dX8_setCellLimit_12 : decode cX8_setCellLimit 12 = .ok (.iload_n 1, 1) := by decide +kernel
theorem dX8_setCellLimit_13 : decode cX8_setCellLimit 13 = .ok (.invokevirtual 99, 3) := by decide +kernel
theorem dX8_setCellLimit_16 : decode cX8_setCellLimit 16 = .ok (.goto 4, 3) := by decide +kernel
theorem dX8_setCellLimit_19 : decode cX8_setCellLimit 19 = .ok (.iconst (-1), 1) := by decide +kernel
theorem dX8_setCellLimit_20 : decode cX8_setCellLimit 20 = .ok (.ireturn, 1) := by decide +kernel
theorem dX8_setCornerLimit_0 : decode cX8_setCornerLimit 0 = .ok (.iload_n 1, 1) := by decide +kernel
theorem dX8_setCornerLimit_1 : decode cX8_setCornerLimit 1 = .ok (.iconst 0, 1) := by decide +kernel
theorem dX8_setCornerLimit_2 : decode cX8_setCornerLimit 2 = .ok (.bipush 8, 2) := by decide +kernel
theorem dX8_setCornerLimit_4 : decode cX8_setCornerLimit 4 = .ok (.invokestatic 65, 3) := by decide +kernel
theorem dX8_setCornerLimit_7 : decode cX8_setCornerLimit 7 = .ok (.ifCond .eq 12, 3) := by decide +kernel
theorem dX8_setCornerLimit_10 : decode cX8_setCornerLimit 10 = .ok (.aload_n 0, 1) := by decide +kernel
theorem dX8_setCornerLimit_11 : decode cX8_setCornerLimit 11 = .ok (.iconst 3, 1) := by decide +kernel
theorem dX8_setCornerLimit_12 : decode cX8_setCornerLimit 12 = .ok (.iload_n 1, 1) := by decide +kernel
theorem dX8_setCornerLimit_13 : decode cX8_setCornerLimit 13 = .ok (.invokevirtual 99, 3) := by decide +kernel
theorem dX8_setCornerLimit_16 : decode cX8_setCornerLimit 16 = .ok (.goto 4, 3) := by decide +kernel
theorem dX8_setCornerLimit_19 : decode cX8_setCornerLimit 19 = .ok (.iconst (-1), 1) := by decide +kernel
theorem dX8_setCornerLimit_20 : decode cX8_setCornerLimit 20 = .ok (.ireturn, 1) := by decide +kernel
theorem dX8_box_0 : decode cX8_box 0 = .ok (.iload_n 0, 1) := by decide +kernel
theorem dX8_box_1 : decode cX8_box 1 = .ok (.bipush 7, 2) := by decide +kernel
theorem dX8_box_3 : decode cX8_box 3 = .ok (.imul, 1) := by decide +kernel
theorem dX8_box_4 : decode cX8_box 4 = .ok (.iload_n 1, 1) := by decide +kernel
theorem dX8_box_5 : decode cX8_box 5 = .ok (.iadd, 1) := by decide +kernel
theorem dX8_box_6 : decode cX8_box 6 = .ok (.bipush 7, 2) := by decide +kernel
theorem dX8_box_8 : decode cX8_box 8 = .ok (.imul, 1) := by decide +kernel
theorem dX8_box_9 : decode cX8_box 9 = .ok (.iload_n 2, 1) := by decide +kernel
theorem dX8_box_10 : decode cX8_box 10 = .ok (.iadd, 1) := by decide +kernel
theorem dX8_box_11 : decode cX8_box 11 = .ok (.bipush 7, 2) := by decide +kernel
theorem dX8_box_13 : decode cX8_box 13 = .ok (.imul, 1) := by decide +kernel
theorem dX8_box_14 : decode cX8_box 14 = .ok (.iload_n 3, 1) := by decide +kernel
theorem dX8_box_15 : decode cX8_box 15 = .ok (.iadd, 1) := by decide +kernel
theorem dX8_box_16 : decode cX8_box 16 = .ok (.ireturn, 1) := by decide +kernel
theorem dX8_easyMany_0 : decode cX8_easyMany 0 = .ok (.iconst 0, 1) := by decide +kernel
theorem dX8_easyMany_1 : decode cX8_easyMany 1 = .ok (.istore_n 2, 1) := by decide +kernel
theorem dX8_easyMany_2 : decode cX8_easyMany 2 = .ok (.iload_n 2, 1) := by decide +kernel
theorem dX8_easyMany_3 : decode cX8_easyMany 3 = .ok (.bipush 49, 2) := by decide +kernel
theorem dX8_easyMany_5 : decode cX8_easyMany 5 = .ok (.if_icmp .ge 16, 3) := by decide +kernel
theorem dX8_easyMany_8 : decode cX8_easyMany 8 = .ok (.aload_n 0, 1) := by decide +kernel
theorem dX8_easyMany_9 : decode cX8_easyMany 9 = .ok (.getfield 28, 3) := by decide +kernel
theorem dX8_easyMany_12 : decode cX8_easyMany 12 = .ok (.iload_n 2, 1) := by decide +kernel
theorem dX8_easyMany_13 : decode cX8_easyMany 13 = .ok (.iconst (-1), 1) := by decide +kernel
theorem dX8_easyMany_14 : decode cX8_easyMany 14 = .ok (.iastore, 1) := by decide +kernel
theorem dX8_easyMany_15 : decode cX8_easyMany 15 = .ok (.iinc 2 1, 3) := by decide +kernel
theorem dX8_easyMany_18 : decode cX8_easyMany 18 = .ok (.goto (-16), 3) := by decide +kernel
theorem dX8_easyMany_21 : decode cX8_easyMany 21 = .ok (.iconst 0, 1) := by decide +kernel
theorem dX8_easyMany_22 : decode cX8_easyMany 22 = .ok (.istore_n 2, 1) := by decide +kernel
theorem dX8_easyMany_23 : decode cX8_easyMany 23 = .ok (.iconst 1, 1) := by decide +kernel
theorem dX8_easyMany_24 : decode cX8_easyMany 24 = .ok (.istore_n 3, 1) := by decide +kernel
theorem dX8_easyMany_25 : decode cX8_easyMany 25 = .ok (.iconst 0, 1) := by decide +kernel
theorem dX8_easyMany_26 : decode cX8_easyMany 26 = .ok (.istore 4, 2) := by decide +kernel
theorem dX8_easyMany_28 : decode cX8_easyMany 28 = .ok (.iload 4, 2) := by decide +kernel
theorem dX8_easyMany_30 : decode cX8_easyMany 30 = .ok (.bipush 49, 2) := by decide +kernel
theorem dX8_easyMany_32 : decode cX8_easyMany 32 = .ok (.if_icmp .ge 112, 3) := by decide +kernel
theorem dX8_easyMany_35 : decode cX8_easyMany 35 = .ok (.iload_n 3, 1) := by decide +kernel
theorem dX8_easyMany_36 : decode cX8_easyMany 36 = .ok (.ifCond .eq 108, 3) := by decide +kernel
theorem dX8_easyMany_39 : decode cX8_easyMany 39 = .ok (.iload 4, 2) := by decide +kernel
theorem dX8_easyMany_41 : decode cX8_easyMany 41 = .ok (.bipush 7, 2) := by decide +kernel
theorem dX8_easyMany_43 : decode cX8_easyMany 43 = .ok (.idiv, 1) := by decide +kernel
theorem dX8_easyMany_44 : decode cX8_easyMany 44 = .ok (.aload_n 0, 1) := by decide +kernel
theorem dX8_easyMany_45 : decode cX8_easyMany 45 = .ok (.getfield 125, 3) := by decide +kernel
theorem dX8_easyMany_48 : decode cX8_easyMany 48 = .ok (.aload_n 0, 1) := by decide +kernel
theorem dX8_easyMany_49 : decode cX8_easyMany 49 = .ok (.getfield 119, 3) := by decide +kernel
theorem dX8_easyMany_52 : decode cX8_easyMany 52 = .ok (.invokestatic 65, 3) := by decide +kernel
theorem dX8_easyMany_55 : decode cX8_easyMany 55 = .ok (.ifCond .eq 47, 3) := by decide +kernel
theorem dX8_easyMany_58 : decode cX8_easyMany 58 = .ok (.iload 4, 2) := by decide +kernel
theorem dX8_easyMany_60 : decode cX8_easyMany 60 = .ok (.bipush 7, 2) := by decide +kernel
theorem dX8_easyMany_62 : decode cX8_easyMany 62 = .ok (.irem, 1) := by decide +kernel
theorem dX8_easyMany_63 : decode cX8_easyMany 63 = .ok (.aload_n 0, 1) := by decide +kernel
theorem dX8_easyMany_64 : decode cX8_easyMany 64 = .ok (.getfield 122, 3) := by decide +kernel
theorem dX8_easyMany_67 : decode cX8_easyMany 67 = .ok (.aload_n 0, 1) := by decide +kernel
theorem dX8_easyMany_68 : decode cX8_easyMany 68 = .ok (.getfield 116, 3) := by decide +kernel
theorem dX8_easyMany_71 : decode cX8_easyMany 71 = .ok (.invokestatic 65, 3) := by decide +kernel
theorem dX8_easyMany_74 : decode cX8_easyMany 74 = .ok (.ifCond .eq 28, 3) := by decide +kernel
theorem dX8_easyMany_77 : decode cX8_easyMany 77 = .ok (.aload_n 0, 1) := by decide +kernel
theorem dX8_easyMany_78 : decode cX8_easyMany 78 = .ok (.getfield 25, 3) := by decide +kernel
theorem dX8_easyMany_81 : decode cX8_easyMany 81 = .ok (.iload 4, 2) := by decide +kernel
theorem dX8_easyMany_83 : decode cX8_easyMany 83 = .ok (.iaload, 1) := by decide +kernel
theorem dX8_easyMany_84 : decode cX8_easyMany 84 = .ok (.iload_n 1, 1) := by decide +kernel
theorem dX8_easyMany_85 : decode cX8_easyMany 85 = .ok (.if_icmp .ne 17, 3) := by decide +kernel
theorem dX8_easyMany_88 : decode cX8_easyMany 88 = .ok (.aload_n 0, 1) := by decide +kernel
theorem dX8_easyMany_89 : decode cX8_easyMany 89 = .ok (.getfield 28, 3) := by decide +kernel
theorem dX8_easyMany_92 : decode cX8_easyMany 92 = .ok (.iload 4, 2) := by decide +kernel
theorem dX8_easyMany_94 : decode cX8_easyMany 94 = .ok (.iaload, 1) := by decide +kernel
theorem dX8_easyMany_95 : decode cX8_easyMany 95 = .ok (.ifCond .ge 7, 3) := by decide +kernel
theorem dX8_easyMany_98 : decode cX8_easyMany 98 = .ok (.iconst 1, 1) := by decide +kernel
theorem dX8_easyMany_99 : decode cX8_easyMany 99 = .ok (.goto 4, 3) := by decide +kernel
theorem dX8_easyMany_102 : decode cX8_easyMany 102 = .ok (.iconst 0, 1) := by decide +kernel
theorem dX8_easyMany_103 : decode cX8_easyMany 103 = .ok (.istore 5, 2) := by decide +kernel
theorem dX8_easyMany_105 : decode cX8_easyMany 105 = .ok (.iload 5, 2) := by decide +kernel
theorem dX8_easyMany_107 : decode cX8_easyMany 107 = .ok (.ifCond .eq 31, 3) := by decide +kernel
theorem dX8_easyMany_110 : decode cX8_easyMany 110 = .ok (.aload_n 0, 1) := by decide +kernel
theorem dX8_easyMany_111 : decode cX8_easyMany 111 = .ok (.aload_n 0, 1) := by decide +kernel
theorem dX8_easyMany_112 : decode cX8_easyMany 112 = .ok (.getfield 28, 3) := by decide +kernel
theorem dX8_easyMany_115 : decode cX8_easyMany 115 = .ok (.iload 4, 2) := by decide +kernel
theorem dX8_easyMany_117 : decode cX8_easyMany 117 = .ok (.iload_n 2, 1) := by decide +kernel
theorem dX8_easyMany_118 : decode cX8_easyMany 118 = .ok (.invokevirtual 134, 3) := by decide +kernel
theorem dX8_easyMany_121 : decode cX8_easyMany 121 = .ok (.istore 6, 2) := by decide +kernel
theorem dX8_easyMany_123 : decode cX8_easyMany 123 = .ok (.aload_n 0, 1) := by decide +kernel
theorem dX8_easyMany_124 : decode cX8_easyMany 124 = .ok (.aload_n 0, 1) := by decide +kernel
theorem dX8_easyMany_125 : decode cX8_easyMany 125 = .ok (.getfield 28, 3) := by decide +kernel
theorem dX8_easyMany_128 : decode cX8_easyMany 128 = .ok (.iload_n 2, 1) := by decide +kernel
theorem dX8_easyMany_129 : decode cX8_easyMany 129 = .ok (.iload 6, 2) := by decide +kernel
theorem dX8_easyMany_131 : decode cX8_easyMany 131 = .ok (.invokevirtual 153, 3) := by decide +kernel
theorem dX8_easyMany_134 : decode cX8_easyMany 134 = .ok (.istore_n 3, 1) := by decide +kernel
theorem dX8_easyMany_135 : decode cX8_easyMany 135 = .ok (.iinc 2 1, 3) := by decide +kernel
theorem dX8_easyMany_138 : decode cX8_easyMany 138 = .ok (.iinc 4 1, 3) := by decide +kernel
theorem dX8_easyMany_141 : decode cX8_easyMany 141 = .ok (.goto (-113), 3) := by decide +kernel
theorem dX8_easyMany_144 : decode cX8_easyMany 144 = .ok (.iload_n 3, 1) := by decide +kernel
theorem dX8_easyMany_145 : decode cX8_easyMany 145 = .ok (.ifCond .eq 7, 3) := by decide +kernel
theorem dX8_easyMany_148 : decode cX8_easyMany 148 = .ok (.iload_n 2, 1) := by decide +kernel
theorem dX8_easyMany_149 : decode cX8_easyMany 149 = .ok (.goto 4, 3) := by decide +kernel
theorem dX8_easyMany_152 : decode cX8_easyMany 152 = .ok (.iconst (-1), 1) := by decide +kernel
theorem dX8_easyMany_153 : decode cX8_easyMany 153 = .ok (.ireturn, 1) := by decide +kernel
theorem dX8_apartBelow_0 : decode cX8_apartBelow 0 = .ok (.iconst 0, 1) := by decide +kernel
theorem dX8_apartBelow_1 : decode cX8_apartBelow 1 = .ok (.istore 5, 2) := by decide +kernel
theorem dX8_apartBelow_3 : decode cX8_apartBelow 3 = .ok (.iload_n 3, 1) := by decide +kernel
theorem dX8_apartBelow_4 : decode cX8_apartBelow 4 = .ok (.istore 6, 2) := by decide +kernel
theorem dX8_apartBelow_6 : decode cX8_apartBelow 6 = .ok (.iload 6, 2) := by decide +kernel
theorem dX8_apartBelow_8 : decode cX8_apartBelow 8 = .ok (.iload 4, 2) := by decide +kernel
theorem dX8_apartBelow_10 : decode cX8_apartBelow 10 = .ok (.if_icmp .gt 50, 3) := by decide +kernel
theorem dX8_apartBelow_13 : decode cX8_apartBelow 13 = .ok (.iload 5, 2) := by decide +kernel
theorem dX8_apartBelow_15 : decode cX8_apartBelow 15 = .ok (.aload_n 0, 1) := by decide +kernel
theorem dX8_apartBelow_16 : decode cX8_apartBelow 16 = .ok (.getfield 25, 3) := by decide +kernel
theorem dX8_apartBelow_19 : decode cX8_apartBelow 19 = .ok (.bipush 7, 2) := by decide +kernel
theorem dX8_apartBelow_21 : decode cX8_apartBelow 21 = .ok (.iload_n 2, 1) := by decide +kernel
theorem dX8_apartBelow_22 : decode cX8_apartBelow 22 = .ok (.imul, 1) := by decide +kernel
theorem dX8_apartBelow_23 : decode cX8_apartBelow 23 = .ok (.iload 6, 2) := by decide +kernel
theorem dX8_apartBelow_25 : decode cX8_apartBelow 25 = .ok (.iadd, 1) := by decide +kernel
theorem dX8_apartBelow_26 : decode cX8_apartBelow 26 = .ok (.iaload, 1) := by decide +kernel
theorem dX8_apartBelow_27 : decode cX8_apartBelow 27 = .ok (.iload_n 1, 1) := by decide +kernel
theorem dX8_apartBelow_28 : decode cX8_apartBelow 28 = .ok (.if_icmp .ne 22, 3) := by decide +kernel
theorem dX8_apartBelow_31 : decode cX8_apartBelow 31 = .ok (.aload_n 0, 1) := by decide +kernel
theorem dX8_apartBelow_32 : decode cX8_apartBelow 32 = .ok (.bipush 7, 2) := by decide +kernel
theorem dX8_apartBelow_34 : decode cX8_apartBelow 34 = .ok (.iload_n 2, 1) := by decide +kernel
theorem dX8_apartBelow_35 : decode cX8_apartBelow 35 = .ok (.imul, 1) := by decide +kernel
theorem dX8_apartBelow_36 : decode cX8_apartBelow 36 = .ok (.iload 6, 2) := by decide +kernel
theorem dX8_apartBelow_38 : decode cX8_apartBelow 38 = .ok (.iadd, 1) := by decide +kernel
theorem dX8_apartBelow_39 : decode cX8_apartBelow 39 = .ok (.iconst 1, 1) := by decide +kernel
theorem dX8_apartBelow_40 : decode cX8_apartBelow 40 = .ok (.invokevirtual 128, 3) := by decide +kernel
theorem dX8_apartBelow_43 : decode cX8_apartBelow 43 = .ok (.ifCond .eq 7, 3) := by decide +kernel
theorem dX8_apartBelow_46 : decode cX8_apartBelow 46 = .ok (.iconst 1, 1) := by decide +kernel
theorem dX8_apartBelow_47 : decode cX8_apartBelow 47 = .ok (.goto 4, 3) := by decide +kernel
theorem dX8_apartBelow_50 : decode cX8_apartBelow 50 = .ok (.iconst 0, 1) := by decide +kernel
theorem dX8_apartBelow_51 : decode cX8_apartBelow 51 = .ok (.iadd, 1) := by decide +kernel
theorem dX8_apartBelow_52 : decode cX8_apartBelow 52 = .ok (.istore 5, 2) := by decide +kernel
theorem dX8_apartBelow_54 : decode cX8_apartBelow 54 = .ok (.iinc 6 1, 3) := by decide +kernel
theorem dX8_apartBelow_57 : decode cX8_apartBelow 57 = .ok (.goto (-51), 3) := by decide +kernel
theorem dX8_apartBelow_60 : decode cX8_apartBelow 60 = .ok (.iload 5, 2) := by decide +kernel
theorem dX8_apartBelow_62 : decode cX8_apartBelow 62 = .ok (.ireturn, 1) := by decide +kernel
theorem dX8_apartRight_0 : decode cX8_apartRight 0 = .ok (.iconst 0, 1) := by decide +kernel
theorem dX8_apartRight_1 : decode cX8_apartRight 1 = .ok (.istore 5, 2) := by decide +kernel
theorem dX8_apartRight_3 : decode cX8_apartRight 3 = .ok (.iload_n 3, 1) := by decide +kernel
theorem dX8_apartRight_4 : decode cX8_apartRight 4 = .ok (.istore 6, 2) := by decide +kernel
theorem dX8_apartRight_6 : decode cX8_apartRight 6 = .ok (.iload 6, 2) := by decide +kernel
theorem dX8_apartRight_8 : decode cX8_apartRight 8 = .ok (.iload 4, 2) := by decide +kernel
theorem dX8_apartRight_10 : decode cX8_apartRight 10 = .ok (.if_icmp .gt 50, 3) := by decide +kernel
theorem dX8_apartRight_13 : decode cX8_apartRight 13 = .ok (.iload 5, 2) := by decide +kernel
theorem dX8_apartRight_15 : decode cX8_apartRight 15 = .ok (.aload_n 0, 1) := by decide +kernel
theorem dX8_apartRight_16 : decode cX8_apartRight 16 = .ok (.getfield 25, 3) := by decide +kernel
theorem dX8_apartRight_19 : decode cX8_apartRight 19 = .ok (.bipush 7, 2) := by decide +kernel
theorem dX8_apartRight_21 : decode cX8_apartRight 21 = .ok (.iload 6, 2) := by decide +kernel
theorem dX8_apartRight_23 : decode cX8_apartRight 23 = .ok (.imul, 1) := by decide +kernel
theorem dX8_apartRight_24 : decode cX8_apartRight 24 = .ok (.iload_n 2, 1) := by decide +kernel
theorem dX8_apartRight_25 : decode cX8_apartRight 25 = .ok (.iadd, 1) := by decide +kernel
theorem dX8_apartRight_26 : decode cX8_apartRight 26 = .ok (.iaload, 1) := by decide +kernel
theorem dX8_apartRight_27 : decode cX8_apartRight 27 = .ok (.iload_n 1, 1) := by decide +kernel
theorem dX8_apartRight_28 : decode cX8_apartRight 28 = .ok (.if_icmp .ne 22, 3) := by decide +kernel
theorem dX8_apartRight_31 : decode cX8_apartRight 31 = .ok (.aload_n 0, 1) := by decide +kernel
theorem dX8_apartRight_32 : decode cX8_apartRight 32 = .ok (.bipush 7, 2) := by decide +kernel
theorem dX8_apartRight_34 : decode cX8_apartRight 34 = .ok (.iload 6, 2) := by decide +kernel
theorem dX8_apartRight_36 : decode cX8_apartRight 36 = .ok (.imul, 1) := by decide +kernel
theorem dX8_apartRight_37 : decode cX8_apartRight 37 = .ok (.iload_n 2, 1) := by decide +kernel
theorem dX8_apartRight_38 : decode cX8_apartRight 38 = .ok (.iadd, 1) := by decide +kernel
theorem dX8_apartRight_39 : decode cX8_apartRight 39 = .ok (.iconst 0, 1) := by decide +kernel
theorem dX8_apartRight_40 : decode cX8_apartRight 40 = .ok (.invokevirtual 128, 3) := by decide +kernel
theorem dX8_apartRight_43 : decode cX8_apartRight 43 = .ok (.ifCond .eq 7, 3) := by decide +kernel
theorem dX8_apartRight_46 : decode cX8_apartRight 46 = .ok (.iconst 1, 1) := by decide +kernel
theorem dX8_apartRight_47 : decode cX8_apartRight 47 = .ok (.goto 4, 3) := by decide +kernel
theorem dX8_apartRight_50 : decode cX8_apartRight 50 = .ok (.iconst 0, 1) := by decide +kernel
theorem dX8_apartRight_51 : decode cX8_apartRight 51 = .ok (.iadd, 1) := by decide +kernel
theorem dX8_apartRight_52 : decode cX8_apartRight 52 = .ok (.istore 5, 2) := by decide +kernel
theorem dX8_apartRight_54 : decode cX8_apartRight 54 = .ok (.iinc 6 1, 3) := by decide +kernel
theorem dX8_apartRight_57 : decode cX8_apartRight 57 = .ok (.goto (-51), 3) := by decide +kernel
theorem dX8_apartRight_60 : decode cX8_apartRight 60 = .ok (.iload 5, 2) := by decide +kernel
theorem dX8_apartRight_62 : decode cX8_apartRight 62 = .ok (.ireturn, 1) := by decide +kernel
theorem dX8_tries_0 : decode cX8_tries 0 = .ok (.aload_n 0, 1) := by decide +kernel
theorem dX8_tries_1 : decode cX8_tries 1 = .ok (.getfield 44, 3) := by decide +kernel
theorem dX8_tries_4 : decode cX8_tries 4 = .ok (.iload_n 3, 1) := by decide +kernel
theorem dX8_tries_5 : decode cX8_tries 5 = .ok (.iaload, 1) := by decide +kernel
theorem dX8_tries_6 : decode cX8_tries 6 = .ok (.aload_n 0, 1) := by decide +kernel
theorem dX8_tries_7 : decode cX8_tries 7 = .ok (.getfield 44, 3) := by decide +kernel
theorem dX8_tries_10 : decode cX8_tries 10 = .ok (.iload 4, 2) := by decide +kernel
theorem dX8_tries_12 : decode cX8_tries 12 = .ok (.iaload, 1) := by decide +kernel
theorem dX8_tries_13 : decode cX8_tries 13 = .ok (.iadd, 1) := by decide +kernel
theorem dX8_tries_14 : decode cX8_tries 14 = .ok (.istore 6, 2) := by decide +kernel
theorem dX8_tries_16 : decode cX8_tries 16 = .ok (.aload_n 0, 1) := by decide +kernel
theorem dX8_tries_17 : decode cX8_tries 17 = .ok (.getfield 47, 3) := by decide +kernel
theorem dX8_tries_20 : decode cX8_tries 20 = .ok (.iload_n 3, 1) := by decide +kernel
theorem dX8_tries_21 : decode cX8_tries 21 = .ok (.iaload, 1) := by decide +kernel
theorem dX8_tries_22 : decode cX8_tries 22 = .ok (.aload_n 0, 1) := by decide +kernel
theorem dX8_tries_23 : decode cX8_tries 23 = .ok (.getfield 47, 3) := by decide +kernel
theorem dX8_tries_26 : decode cX8_tries 26 = .ok (.iload 4, 2) := by decide +kernel
theorem dX8_tries_28 : decode cX8_tries 28 = .ok (.iaload, 1) := by decide +kernel
theorem dX8_tries_29 : decode cX8_tries 29 = .ok (.iadd, 1) := by decide +kernel
theorem dX8_tries_30 : decode cX8_tries 30 = .ok (.iload 5, 2) := by decide +kernel
theorem dX8_tries_32 : decode cX8_tries 32 = .ok (.iadd, 1) := by decide +kernel
theorem dX8_tries_33 : decode cX8_tries 33 = .ok (.istore 7, 2) := by decide +kernel
theorem dX8_tries_35 : decode cX8_tries 35 = .ok (.aload_n 0, 1) := by decide +kernel
theorem dX8_tries_36 : decode cX8_tries 36 = .ok (.getfield 50, 3) := by decide +kernel
theorem dX8_tries_39 : decode cX8_tries 39 = .ok (.iload_n 1, 1) := by decide +kernel
theorem dX8_tries_40 : decode cX8_tries 40 = .ok (.iaload, 1) := by decide +kernel
theorem dX8_tries_41 : decode cX8_tries 41 = .ok (.iconst (-1), 1) := by decide +kernel
theorem dX8_tries_42 : decode cX8_tries 42 = .ok (.if_icmp .eq 36, 3) := by decide +kernel
theorem dX8_tries_45 : decode cX8_tries 45 = .ok (.iload 6, 2) := by decide +kernel
theorem dX8_tries_47 : decode cX8_tries 47 = .ok (.aload_n 0, 1) := by decide +kernel
theorem dX8_tries_48 : decode cX8_tries 48 = .ok (.getfield 44, 3) := by decide +kernel
theorem dX8_tries_51 : decode cX8_tries 51 = .ok (.iload_n 1, 1) := by decide +kernel
theorem dX8_tries_52 : decode cX8_tries 52 = .ok (.iaload, 1) := by decide +kernel
theorem dX8_tries_53 : decode cX8_tries 53 = .ok (.if_icmp .lt 25, 3) := by decide +kernel
theorem dX8_tries_56 : decode cX8_tries 56 = .ok (.iload 6, 2) := by decide +kernel
theorem dX8_tries_58 : decode cX8_tries 58 = .ok (.aload_n 0, 1) := by decide +kernel
theorem dX8_tries_59 : decode cX8_tries 59 = .ok (.getfield 44, 3) := by decide +kernel
theorem dX8_tries_62 : decode cX8_tries 62 = .ok (.iload_n 1, 1) := by decide +kernel
theorem dX8_tries_63 : decode cX8_tries 63 = .ok (.iaload, 1) := by decide +kernel
theorem dX8_tries_64 : decode cX8_tries 64 = .ok (.if_icmp .ne 37, 3) := by decide +kernel
theorem dX8_tries_67 : decode cX8_tries 67 = .ok (.iload 7, 2) := by decide +kernel
theorem dX8_tries_69 : decode cX8_tries 69 = .ok (.aload_n 0, 1) := by decide +kernel
theorem dX8_tries_70 : decode cX8_tries 70 = .ok (.getfield 47, 3) := by decide +kernel
theorem dX8_tries_73 : decode cX8_tries 73 = .ok (.iload_n 1, 1) := by decide +kernel
theorem dX8_tries_74 : decode cX8_tries 74 = .ok (.iaload, 1) := by decide +kernel
theorem dX8_tries_75 : decode cX8_tries 75 = .ok (.if_icmp .ge 26, 3) := by decide +kernel
theorem dX8_tries_78 : decode cX8_tries 78 = .ok (.aload_n 0, 1) := by decide +kernel
theorem dX8_tries_79 : decode cX8_tries 79 = .ok (.getfield 44, 3) := by decide +kernel
theorem dX8_tries_82 : decode cX8_tries 82 = .ok (.iload_n 1, 1) := by decide +kernel
theorem dX8_tries_83 : decode cX8_tries 83 = .ok (.iload 6, 2) := by decide +kernel
theorem dX8_tries_85 : decode cX8_tries 85 = .ok (.iastore, 1) := by decide +kernel
theorem dX8_tries_86 : decode cX8_tries 86 = .ok (.aload_n 0, 1) := by decide +kernel
theorem dX8_tries_87 : decode cX8_tries 87 = .ok (.getfield 47, 3) := by decide +kernel
theorem dX8_tries_90 : decode cX8_tries 90 = .ok (.iload_n 1, 1) := by decide +kernel
theorem dX8_tries_91 : decode cX8_tries 91 = .ok (.iload 7, 2) := by decide +kernel
theorem dX8_tries_93 : decode cX8_tries 93 = .ok (.iastore, 1) := by decide +kernel
theorem dX8_tries_94 : decode cX8_tries 94 = .ok (.aload_n 0, 1) := by decide +kernel
theorem dX8_tries_95 : decode cX8_tries 95 = .ok (.getfield 50, 3) := by decide +kernel
theorem dX8_tries_98 : decode cX8_tries 98 = .ok (.iload_n 1, 1) := by decide +kernel
theorem dX8_tries_99 : decode cX8_tries 99 = .ok (.iload_n 2, 1) := by decide +kernel
theorem dX8_tries_100 : decode cX8_tries 100 = .ok (.iastore, 1) := by decide +kernel
theorem dX8_tries_101 : decode cX8_tries 101 = .ok (.return_, 1) := by decide +kernel
theorem dX8_layBox_0 : decode cX8_layBox 0 = .ok (.aload_n 0, 1) := by decide +kernel
theorem dX8_layBox_1 : decode cX8_layBox 1 = .ok (.getfield 125, 3) := by decide +kernel
theorem dX8_layBox_4 : decode cX8_layBox 4 = .ok (.istore_n 2, 1) := by decide +kernel
theorem dX8_layBox_5 : decode cX8_layBox 5 = .ok (.aload_n 0, 1) := by decide +kernel
theorem dX8_layBox_6 : decode cX8_layBox 6 = .ok (.getfield 119, 3) := by decide +kernel
theorem dX8_layBox_9 : decode cX8_layBox 9 = .ok (.istore_n 3, 1) := by decide +kernel
theorem dX8_layBox_10 : decode cX8_layBox 10 = .ok (.aload_n 0, 1) := by decide +kernel
theorem dX8_layBox_11 : decode cX8_layBox 11 = .ok (.getfield 122, 3) := by decide +kernel
theorem dX8_layBox_14 : decode cX8_layBox 14 = .ok (.istore 4, 2) := by decide +kernel
theorem dX8_layBox_16 : decode cX8_layBox 16 = .ok (.aload_n 0, 1) := by decide +kernel
theorem dX8_layBox_17 : decode cX8_layBox 17 = .ok (.getfield 116, 3) := by decide +kernel
theorem dX8_layBox_20 : decode cX8_layBox 20 = .ok (.istore 5, 2) := by decide +kernel
theorem dX8_layBox_22 : decode cX8_layBox 22 = .ok (.iload_n 2, 1) := by decide +kernel
theorem dX8_layBox_23 : decode cX8_layBox 23 = .ok (.iload_n 3, 1) := by decide +kernel
theorem dX8_layBox_24 : decode cX8_layBox 24 = .ok (.iload 4, 2) := by decide +kernel
theorem dX8_layBox_26 : decode cX8_layBox 26 = .ok (.iload 5, 2) := by decide +kernel
theorem dX8_layBox_28 : decode cX8_layBox 28 = .ok (.invokestatic 171, 3) := by decide +kernel
theorem dX8_layBox_31 : decode cX8_layBox 31 = .ok (.istore 6, 2) := by decide +kernel
theorem dX8_layBox_33 : decode cX8_layBox 33 = .ok (.aload_n 0, 1) := by decide +kernel
theorem dX8_layBox_34 : decode cX8_layBox 34 = .ok (.iload_n 1, 1) := by decide +kernel
theorem dX8_layBox_35 : decode cX8_layBox 35 = .ok (.invokevirtual 175, 3) := by decide +kernel
theorem dX8_layBox_38 : decode cX8_layBox 38 = .ok (.istore 7, 2) := by decide +kernel
theorem dX8_layBox_40 : decode cX8_layBox 40 = .ok (.aload_n 0, 1) := by decide +kernel
theorem dX8_layBox_41 : decode cX8_layBox 41 = .ok (.getfield 50, 3) := by decide +kernel
theorem dX8_layBox_44 : decode cX8_layBox 44 = .ok (.iload 6, 2) := by decide +kernel
theorem dX8_layBox_46 : decode cX8_layBox 46 = .ok (.iconst (-1), 1) := by decide +kernel
theorem dX8_layBox_47 : decode cX8_layBox 47 = .ok (.iastore, 1) := by decide +kernel
theorem dX8_layBox_48 : decode cX8_layBox 48 = .ok (.aload_n 0, 1) := by decide +kernel
theorem dX8_layBox_49 : decode cX8_layBox 49 = .ok (.getfield 44, 3) := by decide +kernel
theorem dX8_layBox_52 : decode cX8_layBox 52 = .ok (.iload 6, 2) := by decide +kernel
theorem dX8_layBox_54 : decode cX8_layBox 54 = .ok (.iload 7, 2) := by decide +kernel
theorem dX8_layBox_56 : decode cX8_layBox 56 = .ok (.iastore, 1) := by decide +kernel
theorem dX8_layBox_57 : decode cX8_layBox 57 = .ok (.aload_n 0, 1) := by decide +kernel
theorem dX8_layBox_58 : decode cX8_layBox 58 = .ok (.getfield 47, 3) := by decide +kernel
theorem dX8_layBox_61 : decode cX8_layBox 61 = .ok (.iload 6, 2) := by decide +kernel
theorem dX8_layBox_63 : decode cX8_layBox 63 = .ok (.iconst 0, 1) := by decide +kernel
theorem dX8_layBox_64 : decode cX8_layBox 64 = .ok (.iastore, 1) := by decide +kernel
theorem dX8_layBox_65 : decode cX8_layBox 65 = .ok (.iload 7, 2) := by decide +kernel
theorem dX8_layBox_67 : decode cX8_layBox 67 = .ok (.iconst (-1), 1) := by decide +kernel
theorem dX8_layBox_68 : decode cX8_layBox 68 = .ok (.if_icmp .eq 4, 3) := by decide +kernel
theorem dX8_layBox_71 : decode cX8_layBox 71 = .ok (.return_, 1) := by decide +kernel
theorem dX8_layBox_72 : decode cX8_layBox 72 = .ok (.iload_n 2, 1) := by decide +kernel
theorem dX8_layBox_73 : decode cX8_layBox 73 = .ok (.istore 8, 2) := by decide +kernel
theorem dX8_layBox_75 : decode cX8_layBox 75 = .ok (.iload 8, 2) := by decide +kernel
theorem dX8_layBox_77 : decode cX8_layBox 77 = .ok (.iload_n 3, 1) := by decide +kernel
theorem dX8_layBox_78 : decode cX8_layBox 78 = .ok (.if_icmp .ge 58, 3) := by decide +kernel
theorem dX8_layBox_81 : decode cX8_layBox 81 = .ok (.iload_n 2, 1) := by decide +kernel
theorem dX8_layBox_82 : decode cX8_layBox 82 = .ok (.iload 8, 2) := by decide +kernel
theorem dX8_layBox_84 : decode cX8_layBox 84 = .ok (.iload 4, 2) := by decide +kernel
theorem dX8_layBox_86 : decode cX8_layBox 86 = .ok (.iload 5, 2) := by decide +kernel
theorem dX8_layBox_88 : decode cX8_layBox 88 = .ok (.invokestatic 171, 3) := by decide +kernel
theorem dX8_layBox_91 : decode cX8_layBox 91 = .ok (.istore 9, 2) := by decide +kernel
theorem dX8_layBox_93 : decode cX8_layBox 93 = .ok (.iload 8, 2) := by decide +kernel
theorem dX8_layBox_95 : decode cX8_layBox 95 = .ok (.iconst 1, 1) := by decide +kernel
theorem dX8_layBox_96 : decode cX8_layBox 96 = .ok (.iadd, 1) := by decide +kernel
theorem dX8_layBox_97 : decode cX8_layBox 97 = .ok (.iload_n 3, 1) := by decide +kernel
theorem dX8_layBox_98 : decode cX8_layBox 98 = .ok (.iload 4, 2) := by decide +kernel
theorem dX8_layBox_100 : decode cX8_layBox 100 = .ok (.iload 5, 2) := by decide +kernel
theorem dX8_layBox_102 : decode cX8_layBox 102 = .ok (.invokestatic 171, 3) := by decide +kernel
theorem dX8_layBox_105 : decode cX8_layBox 105 = .ok (.istore 10, 2) := by decide +kernel
theorem dX8_layBox_107 : decode cX8_layBox 107 = .ok (.aload_n 0, 1) := by decide +kernel
theorem dX8_layBox_108 : decode cX8_layBox 108 = .ok (.iload 6, 2) := by decide +kernel
theorem dX8_layBox_110 : decode cX8_layBox 110 = .ok (.iload 8, 2) := by decide +kernel
theorem dX8_layBox_112 : decode cX8_layBox 112 = .ok (.iload 9, 2) := by decide +kernel
theorem dX8_layBox_114 : decode cX8_layBox 114 = .ok (.iload 10, 2) := by decide +kernel
theorem dX8_layBox_116 : decode cX8_layBox 116 = .ok (.aload_n 0, 1) := by decide +kernel
theorem dX8_layBox_117 : decode cX8_layBox 117 = .ok (.iload_n 1, 1) := by decide +kernel
theorem dX8_layBox_118 : decode cX8_layBox 118 = .ok (.iload 8, 2) := by decide +kernel
theorem dX8_layBox_120 : decode cX8_layBox 120 = .ok (.iload 4, 2) := by decide +kernel
theorem dX8_layBox_122 : decode cX8_layBox 122 = .ok (.iload 5, 2) := by decide +kernel
theorem dX8_layBox_124 : decode cX8_layBox 124 = .ok (.invokevirtual 178, 3) := by decide +kernel
theorem dX8_layBox_127 : decode cX8_layBox 127 = .ok (.invokevirtual 181, 3) := by decide +kernel
theorem dX8_layBox_130 : decode cX8_layBox 130 = .ok (.iinc 8 1, 3) := by decide +kernel
theorem dX8_layBox_133 : decode cX8_layBox 133 = .ok (.goto (-58), 3) := by decide +kernel
theorem dX8_layBox_136 : decode cX8_layBox 136 = .ok (.iload 4, 2) := by decide +kernel
theorem dX8_layBox_138 : decode cX8_layBox 138 = .ok (.istore 8, 2) := by decide +kernel
theorem dX8_layBox_140 : decode cX8_layBox 140 = .ok (.iload 8, 2) := by decide +kernel
theorem dX8_layBox_142 : decode cX8_layBox 142 = .ok (.iload 5, 2) := by decide +kernel
theorem dX8_layBox_144 : decode cX8_layBox 144 = .ok (.if_icmp .ge 57, 3) := by decide +kernel
theorem dX8_layBox_147 : decode cX8_layBox 147 = .ok (.iload_n 2, 1) := by decide +kernel
theorem dX8_layBox_148 : decode cX8_layBox 148 = .ok (.iload_n 3, 1) := by decide +kernel
theorem dX8_layBox_149 : decode cX8_layBox 149 = .ok (.iload 4, 2) := by decide +kernel
theorem dX8_layBox_151 : decode cX8_layBox 151 = .ok (.iload 8, 2) := by decide +kernel
theorem dX8_layBox_153 : decode cX8_layBox 153 = .ok (.invokestatic 171, 3) := by decide +kernel
theorem dX8_layBox_156 : decode cX8_layBox 156 = .ok (.istore 9, 2) := by decide +kernel
theorem dX8_layBox_158 : decode cX8_layBox 158 = .ok (.iload_n 2, 1) := by decide +kernel
theorem dX8_layBox_159 : decode cX8_layBox 159 = .ok (.iload_n 3, 1) := by decide +kernel
theorem dX8_layBox_160 : decode cX8_layBox 160 = .ok (.iload 8, 2) := by decide +kernel
theorem dX8_layBox_162 : decode cX8_layBox 162 = .ok (.iconst 1, 1) := by decide +kernel
theorem dX8_layBox_163 : decode cX8_layBox 163 = .ok (.iadd, 1) := by decide +kernel
theorem dX8_layBox_164 : decode cX8_layBox 164 = .ok (.iload 5, 2) := by decide +kernel
theorem dX8_layBox_166 : decode cX8_layBox 166 = .ok (.invokestatic 171, 3) := by decide +kernel
theorem dX8_layBox_169 : decode cX8_layBox 169 = .ok (.istore 10, 2) := by decide +kernel
theorem dX8_layBox_171 : decode cX8_layBox 171 = .ok (.aload_n 0, 1) := by decide +kernel
theorem dX8_layBox_172 : decode cX8_layBox 172 = .ok (.iload 6, 2) := by decide +kernel
theorem dX8_layBox_174 : decode cX8_layBox 174 = .ok (.bipush 7, 2) := by decide +kernel
theorem dX8_layBox_176 : decode cX8_layBox 176 = .ok (.iload 8, 2) := by decide +kernel
theorem dX8_layBox_178 : decode cX8_layBox 178 = .ok (.iadd, 1) := by decide +kernel
theorem dX8_layBox_179 : decode cX8_layBox 179 = .ok (.iload 9, 2) := by decide +kernel
theorem dX8_layBox_181 : decode cX8_layBox 181 = .ok (.iload 10, 2) := by decide +kernel
theorem dX8_layBox_183 : decode cX8_layBox 183 = .ok (.aload_n 0, 1) := by decide +kernel
theorem dX8_layBox_184 : decode cX8_layBox 184 = .ok (.iload_n 1, 1) := by decide +kernel
theorem dX8_layBox_185 : decode cX8_layBox 185 = .ok (.iload 8, 2) := by decide +kernel
theorem dX8_layBox_187 : decode cX8_layBox 187 = .ok (.iload_n 2, 1) := by decide +kernel
theorem dX8_layBox_188 : decode cX8_layBox 188 = .ok (.iload_n 3, 1) := by decide +kernel
theorem dX8_layBox_189 : decode cX8_layBox 189 = .ok (.invokevirtual 185, 3) := by decide +kernel
theorem dX8_layBox_192 : decode cX8_layBox 192 = .ok (.invokevirtual 181, 3) := by decide +kernel
theorem dX8_layBox_195 : decode cX8_layBox 195 = .ok (.iinc 8 1, 3) := by decide +kernel
end
section
theorem dX8_layBox_198 : decode cX8_layBox 198 = .ok (.goto (-58), 3) := by decide +kernel
theorem dX8_layBox_201 : decode cX8_layBox 201 = .ok (.return_, 1) := by decide +kernel
theorem dX8_layPlan_0 : decode cX8_layPlan 0 = .ok (.bipush 7, 2) := by decide +kernel
theorem dX8_layPlan_2 : decode cX8_layPlan 2 = .ok (.istore_n 2, 1) := by decide +kernel
theorem dX8_layPlan_3 : decode cX8_layPlan 3 = .ok (.iconst 0, 1) := by decide +kernel
theorem dX8_layPlan_4 : decode cX8_layPlan 4 = .ok (.istore_n 3, 1) := by decide +kernel
theorem dX8_layPlan_5 : decode cX8_layPlan 5 = .ok (.bipush 7, 2) := by decide +kernel
theorem dX8_layPlan_7 : decode cX8_layPlan 7 = .ok (.istore 4, 2) := by decide +kernel
theorem dX8_layPlan_9 : decode cX8_layPlan 9 = .ok (.iconst 0, 1) := by decide +kernel
theorem dX8_layPlan_10 : decode cX8_layPlan 10 = .ok (.istore 5, 2) := by decide +kernel
theorem dX8_layPlan_12 : decode cX8_layPlan 12 = .ok (.iconst 0, 1) := by decide +kernel
theorem dX8_layPlan_13 : decode cX8_layPlan 13 = .ok (.istore 6, 2) := by decide +kernel
theorem dX8_layPlan_15 : decode cX8_layPlan 15 = .ok (.iload 6, 2) := by decide +kernel
theorem dX8_layPlan_17 : decode cX8_layPlan 17 = .ok (.bipush 49, 2) := by decide +kernel
theorem dX8_layPlan_19 : decode cX8_layPlan 19 = .ok (.if_icmp .ge 102, 3) := by decide +kernel
theorem dX8_layPlan_22 : decode cX8_layPlan 22 = .ok (.aload_n 0, 1) := by decide +kernel
theorem dX8_layPlan_23 : decode cX8_layPlan 23 = .ok (.getfield 25, 3) := by decide +kernel
theorem dX8_layPlan_26 : decode cX8_layPlan 26 = .ok (.iload 6, 2) := by decide +kernel
theorem dX8_layPlan_28 : decode cX8_layPlan 28 = .ok (.iaload, 1) := by decide +kernel
theorem dX8_layPlan_29 : decode cX8_layPlan 29 = .ok (.iload_n 1, 1) := by decide +kernel
theorem dX8_layPlan_30 : decode cX8_layPlan 30 = .ok (.if_icmp .ne 85, 3) := by decide +kernel
theorem dX8_layPlan_33 : decode cX8_layPlan 33 = .ok (.iload 6, 2) := by decide +kernel
theorem dX8_layPlan_35 : decode cX8_layPlan 35 = .ok (.bipush 7, 2) := by decide +kernel
theorem dX8_layPlan_37 : decode cX8_layPlan 37 = .ok (.idiv, 1) := by decide +kernel
theorem dX8_layPlan_38 : decode cX8_layPlan 38 = .ok (.iload_n 2, 1) := by decide +kernel
theorem dX8_layPlan_39 : decode cX8_layPlan 39 = .ok (.if_icmp .ge 11, 3) := by decide +kernel
theorem dX8_layPlan_42 : decode cX8_layPlan 42 = .ok (.iload 6, 2) := by decide +kernel
theorem dX8_layPlan_44 : decode cX8_layPlan 44 = .ok (.bipush 7, 2) := by decide +kernel
theorem dX8_layPlan_46 : decode cX8_layPlan 46 = .ok (.idiv, 1) := by decide +kernel
theorem dX8_layPlan_47 : decode cX8_layPlan 47 = .ok (.goto 4, 3) := by decide +kernel
theorem dX8_layPlan_50 : decode cX8_layPlan 50 = .ok (.iload_n 2, 1) := by decide +kernel
theorem dX8_layPlan_51 : decode cX8_layPlan 51 = .ok (.istore_n 2, 1) := by decide +kernel
theorem dX8_layPlan_52 : decode cX8_layPlan 52 = .ok (.iload 6, 2) := by decide +kernel
theorem dX8_layPlan_54 : decode cX8_layPlan 54 = .ok (.bipush 7, 2) := by decide +kernel
theorem dX8_layPlan_56 : decode cX8_layPlan 56 = .ok (.idiv, 1) := by decide +kernel
theorem dX8_layPlan_57 : decode cX8_layPlan 57 = .ok (.iload_n 3, 1) := by decide +kernel
theorem dX8_layPlan_58 : decode cX8_layPlan 58 = .ok (.if_icmp .le 11, 3) := by decide +kernel
theorem dX8_layPlan_61 : decode cX8_layPlan 61 = .ok (.iload 6, 2) := by decide +kernel
theorem dX8_layPlan_63 : decode cX8_layPlan 63 = .ok (.bipush 7, 2) := by decide +kernel
theorem dX8_layPlan_65 : decode cX8_layPlan 65 = .ok (.idiv, 1) := by decide +kernel
theorem dX8_layPlan_66 : decode cX8_layPlan 66 = .ok (.goto 4, 3) := by decide +kernel
theorem dX8_layPlan_69 : decode cX8_layPlan 69 = .ok (.iload_n 3, 1) := by decide +kernel
theorem dX8_layPlan_70 : decode cX8_layPlan 70 = .ok (.istore_n 3, 1) := by decide +kernel
theorem dX8_layPlan_71 : decode cX8_layPlan 71 = .ok (.iload 6, 2) := by decide +kernel
theorem dX8_layPlan_73 : decode cX8_layPlan 73 = .ok (.bipush 7, 2) := by decide +kernel
theorem dX8_layPlan_75 : decode cX8_layPlan 75 = .ok (.irem, 1) := by decide +kernel
theorem dX8_layPlan_76 : decode cX8_layPlan 76 = .ok (.iload 4, 2) := by decide +kernel
theorem dX8_layPlan_78 : decode cX8_layPlan 78 = .ok (.if_icmp .ge 11, 3) := by decide +kernel
theorem dX8_layPlan_81 : decode cX8_layPlan 81 = .ok (.iload 6, 2) := by decide +kernel
theorem dX8_layPlan_83 : decode cX8_layPlan 83 = .ok (.bipush 7, 2) := by decide +kernel
theorem dX8_layPlan_85 : decode cX8_layPlan 85 = .ok (.irem, 1) := by decide +kernel
theorem dX8_layPlan_86 : decode cX8_layPlan 86 = .ok (.goto 5, 3) := by decide +kernel
theorem dX8_layPlan_89 : decode cX8_layPlan 89 = .ok (.iload 4, 2) := by decide +kernel
theorem dX8_layPlan_91 : decode cX8_layPlan 91 = .ok (.istore 4, 2) := by decide +kernel
theorem dX8_layPlan_93 : decode cX8_layPlan 93 = .ok (.iload 6, 2) := by decide +kernel
theorem dX8_layPlan_95 : decode cX8_layPlan 95 = .ok (.bipush 7, 2) := by decide +kernel
theorem dX8_layPlan_97 : decode cX8_layPlan 97 = .ok (.irem, 1) := by decide +kernel
theorem dX8_layPlan_98 : decode cX8_layPlan 98 = .ok (.iload 5, 2) := by decide +kernel
theorem dX8_layPlan_100 : decode cX8_layPlan 100 = .ok (.if_icmp .le 11, 3) := by decide +kernel
theorem dX8_layPlan_103 : decode cX8_layPlan 103 = .ok (.iload 6, 2) := by decide +kernel
theorem dX8_layPlan_105 : decode cX8_layPlan 105 = .ok (.bipush 7, 2) := by decide +kernel
theorem dX8_layPlan_107 : decode cX8_layPlan 107 = .ok (.irem, 1) := by decide +kernel
theorem dX8_layPlan_108 : decode cX8_layPlan 108 = .ok (.goto 5, 3) := by decide +kernel
theorem dX8_layPlan_111 : decode cX8_layPlan 111 = .ok (.iload 5, 2) := by decide +kernel
theorem dX8_layPlan_113 : decode cX8_layPlan 113 = .ok (.istore 5, 2) := by decide +kernel
theorem dX8_layPlan_115 : decode cX8_layPlan 115 = .ok (.iinc 6 1, 3) := by decide +kernel
theorem dX8_layPlan_118 : decode cX8_layPlan 118 = .ok (.goto (-103), 3) := by decide +kernel
theorem dX8_layPlan_121 : decode cX8_layPlan 121 = .ok (.iconst 0, 1) := by decide +kernel
theorem dX8_layPlan_122 : decode cX8_layPlan 122 = .ok (.istore 6, 2) := by decide +kernel
theorem dX8_layPlan_124 : decode cX8_layPlan 124 = .ok (.iload 6, 2) := by decide +kernel
theorem dX8_layPlan_126 : decode cX8_layPlan 126 = .ok (.iload_n 3, 1) := by decide +kernel
theorem dX8_layPlan_127 : decode cX8_layPlan 127 = .ok (.iload_n 2, 1) := by decide +kernel
theorem dX8_layPlan_128 : decode cX8_layPlan 128 = .ok (.isub, 1) := by decide +kernel
theorem dX8_layPlan_129 : decode cX8_layPlan 129 = .ok (.if_icmp .gt 101, 3) := by decide +kernel
theorem dX8_layPlan_132 : decode cX8_layPlan 132 = .ok (.iconst 0, 1) := by decide +kernel
theorem dX8_layPlan_133 : decode cX8_layPlan 133 = .ok (.istore 7, 2) := by decide +kernel
theorem dX8_layPlan_135 : decode cX8_layPlan 135 = .ok (.iload 7, 2) := by decide +kernel
theorem dX8_layPlan_137 : decode cX8_layPlan 137 = .ok (.iload 5, 2) := by decide +kernel
theorem dX8_layPlan_139 : decode cX8_layPlan 139 = .ok (.iload 4, 2) := by decide +kernel
theorem dX8_layPlan_141 : decode cX8_layPlan 141 = .ok (.isub, 1) := by decide +kernel
theorem dX8_layPlan_142 : decode cX8_layPlan 142 = .ok (.if_icmp .gt 82, 3) := by decide +kernel
theorem dX8_layPlan_145 : decode cX8_layPlan 145 = .ok (.iload_n 2, 1) := by decide +kernel
theorem dX8_layPlan_146 : decode cX8_layPlan 146 = .ok (.istore 8, 2) := by decide +kernel
theorem dX8_layPlan_148 : decode cX8_layPlan 148 = .ok (.iload 8, 2) := by decide +kernel
theorem dX8_layPlan_150 : decode cX8_layPlan 150 = .ok (.iload 6, 2) := by decide +kernel
theorem dX8_layPlan_152 : decode cX8_layPlan 152 = .ok (.iadd, 1) := by decide +kernel
theorem dX8_layPlan_153 : decode cX8_layPlan 153 = .ok (.iload_n 3, 1) := by decide +kernel
theorem dX8_layPlan_154 : decode cX8_layPlan 154 = .ok (.if_icmp .gt 64, 3) := by decide +kernel
theorem dX8_layPlan_157 : decode cX8_layPlan 157 = .ok (.iload 4, 2) := by decide +kernel
theorem dX8_layPlan_159 : decode cX8_layPlan 159 = .ok (.istore 9, 2) := by decide +kernel
theorem dX8_layPlan_161 : decode cX8_layPlan 161 = .ok (.iload 9, 2) := by decide +kernel
theorem dX8_layPlan_163 : decode cX8_layPlan 163 = .ok (.iload 7, 2) := by decide +kernel
theorem dX8_layPlan_165 : decode cX8_layPlan 165 = .ok (.iadd, 1) := by decide +kernel
theorem dX8_layPlan_166 : decode cX8_layPlan 166 = .ok (.iload 5, 2) := by decide +kernel
theorem dX8_layPlan_168 : decode cX8_layPlan 168 = .ok (.if_icmp .gt 44, 3) := by decide +kernel
theorem dX8_layPlan_171 : decode cX8_layPlan 171 = .ok (.aload_n 0, 1) := by decide +kernel
theorem dX8_layPlan_172 : decode cX8_layPlan 172 = .ok (.iload 8, 2) := by decide +kernel
theorem dX8_layPlan_174 : decode cX8_layPlan 174 = .ok (.putfield 125, 3) := by decide +kernel
theorem dX8_layPlan_177 : decode cX8_layPlan 177 = .ok (.aload_n 0, 1) := by decide +kernel
theorem dX8_layPlan_178 : decode cX8_layPlan 178 = .ok (.iload 8, 2) := by decide +kernel
theorem dX8_layPlan_180 : decode cX8_layPlan 180 = .ok (.iload 6, 2) := by decide +kernel
theorem dX8_layPlan_182 : decode cX8_layPlan 182 = .ok (.iadd, 1) := by decide +kernel
theorem dX8_layPlan_183 : decode cX8_layPlan 183 = .ok (.putfield 119, 3) := by decide +kernel
theorem dX8_layPlan_186 : decode cX8_layPlan 186 = .ok (.aload_n 0, 1) := by decide +kernel
theorem dX8_layPlan_187 : decode cX8_layPlan 187 = .ok (.iload 9, 2) := by decide +kernel
theorem dX8_layPlan_189 : decode cX8_layPlan 189 = .ok (.putfield 122, 3) := by decide +kernel
theorem dX8_layPlan_192 : decode cX8_layPlan 192 = .ok (.aload_n 0, 1) := by decide +kernel
theorem dX8_layPlan_193 : decode cX8_layPlan 193 = .ok (.iload 9, 2) := by decide +kernel
theorem dX8_layPlan_195 : decode cX8_layPlan 195 = .ok (.iload 7, 2) := by decide +kernel
theorem dX8_layPlan_197 : decode cX8_layPlan 197 = .ok (.iadd, 1) := by decide +kernel
theorem dX8_layPlan_198 : decode cX8_layPlan 198 = .ok (.putfield 116, 3) := by decide +kernel
theorem dX8_layPlan_201 : decode cX8_layPlan 201 = .ok (.aload_n 0, 1) := by decide +kernel
theorem dX8_layPlan_202 : decode cX8_layPlan 202 = .ok (.iload_n 1, 1) := by decide +kernel
theorem dX8_layPlan_203 : decode cX8_layPlan 203 = .ok (.invokevirtual 188, 3) := by decide +kernel
theorem dX8_layPlan_206 : decode cX8_layPlan 206 = .ok (.iinc 9 1, 3) := by decide +kernel
theorem dX8_layPlan_209 : decode cX8_layPlan 209 = .ok (.goto (-48), 3) := by decide +kernel
theorem dX8_layPlan_212 : decode cX8_layPlan 212 = .ok (.iinc 8 1, 3) := by decide +kernel
theorem dX8_layPlan_215 : decode cX8_layPlan 215 = .ok (.goto (-67), 3) := by decide +kernel
theorem dX8_layPlan_218 : decode cX8_layPlan 218 = .ok (.iinc 7 1, 3) := by decide +kernel
theorem dX8_layPlan_221 : decode cX8_layPlan 221 = .ok (.goto (-86), 3) := by decide +kernel
theorem dX8_layPlan_224 : decode cX8_layPlan 224 = .ok (.iinc 6 1, 3) := by decide +kernel
theorem dX8_layPlan_227 : decode cX8_layPlan 227 = .ok (.goto (-103), 3) := by decide +kernel
theorem dX8_layPlan_230 : decode cX8_layPlan 230 = .ok (.iload_n 2, 1) := by decide +kernel
theorem dX8_layPlan_231 : decode cX8_layPlan 231 = .ok (.iload_n 3, 1) := by decide +kernel
theorem dX8_layPlan_232 : decode cX8_layPlan 232 = .ok (.iload 4, 2) := by decide +kernel
theorem dX8_layPlan_234 : decode cX8_layPlan 234 = .ok (.iload 5, 2) := by decide +kernel
theorem dX8_layPlan_236 : decode cX8_layPlan 236 = .ok (.invokestatic 171, 3) := by decide +kernel
theorem dX8_layPlan_239 : decode cX8_layPlan 239 = .ok (.ireturn, 1) := by decide +kernel
theorem dX8_splitPieces_0 : decode cX8_splitPieces 0 = .ok (.aload_n 0, 1) := by decide +kernel
theorem dX8_splitPieces_1 : decode cX8_splitPieces 1 = .ok (.iload_n 1, 1) := by decide +kernel
theorem dX8_splitPieces_2 : decode cX8_splitPieces 2 = .ok (.invokevirtual 156, 3) := by decide +kernel
theorem dX8_splitPieces_5 : decode cX8_splitPieces 5 = .ok (.ifCond .ne 5, 3) := by decide +kernel
theorem dX8_splitPieces_8 : decode cX8_splitPieces 8 = .ok (.iconst (-1), 1) := by decide +kernel
theorem dX8_splitPieces_9 : decode cX8_splitPieces 9 = .ok (.ireturn, 1) := by decide +kernel
theorem dX8_splitPieces_10 : decode cX8_splitPieces 10 = .ok (.aload_n 0, 1) := by decide +kernel
theorem dX8_splitPieces_11 : decode cX8_splitPieces 11 = .ok (.iload_n 1, 1) := by decide +kernel
theorem dX8_splitPieces_12 : decode cX8_splitPieces 12 = .ok (.invokevirtual 159, 3) := by decide +kernel
theorem dX8_splitPieces_15 : decode cX8_splitPieces 15 = .ok (.ifCond .eq 7, 3) := by decide +kernel
theorem dX8_splitPieces_18 : decode cX8_splitPieces 18 = .ok (.iconst 1, 1) := by decide +kernel
theorem dX8_splitPieces_19 : decode cX8_splitPieces 19 = .ok (.goto 13, 3) := by decide +kernel
theorem dX8_splitPieces_22 : decode cX8_splitPieces 22 = .ok (.aload_n 0, 1) := by decide +kernel
theorem dX8_splitPieces_23 : decode cX8_splitPieces 23 = .ok (.getfield 44, 3) := by decide +kernel
theorem dX8_splitPieces_26 : decode cX8_splitPieces 26 = .ok (.aload_n 0, 1) := by decide +kernel
theorem dX8_splitPieces_27 : decode cX8_splitPieces 27 = .ok (.iload_n 1, 1) := by decide +kernel
theorem dX8_splitPieces_28 : decode cX8_splitPieces 28 = .ok (.invokevirtual 192, 3) := by decide +kernel
theorem dX8_splitPieces_31 : decode cX8_splitPieces 31 = .ok (.iaload, 1) := by decide +kernel
theorem dX8_splitPieces_32 : decode cX8_splitPieces 32 = .ok (.ireturn, 1) := by decide +kernel
theorem dX8_splitLead_0 : decode cX8_splitLead 0 = .ok (.aload_n 0, 1) := by decide +kernel
theorem dX8_splitLead_1 : decode cX8_splitLead 1 = .ok (.iload_n 1, 1) := by decide +kernel
theorem dX8_splitLead_2 : decode cX8_splitLead 2 = .ok (.invokevirtual 156, 3) := by decide +kernel
theorem dX8_splitLead_5 : decode cX8_splitLead 5 = .ok (.ifCond .ne 5, 3) := by decide +kernel
theorem dX8_splitLead_8 : decode cX8_splitLead 8 = .ok (.iconst (-1), 1) := by decide +kernel
theorem dX8_splitLead_9 : decode cX8_splitLead 9 = .ok (.ireturn, 1) := by decide +kernel
theorem dX8_splitLead_10 : decode cX8_splitLead 10 = .ok (.aload_n 0, 1) := by decide +kernel
theorem dX8_splitLead_11 : decode cX8_splitLead 11 = .ok (.iload_n 1, 1) := by decide +kernel
theorem dX8_splitLead_12 : decode cX8_splitLead 12 = .ok (.invokevirtual 159, 3) := by decide +kernel
theorem dX8_splitLead_15 : decode cX8_splitLead 15 = .ok (.ifCond .eq 7, 3) := by decide +kernel
theorem dX8_splitLead_18 : decode cX8_splitLead 18 = .ok (.iconst 0, 1) := by decide +kernel
theorem dX8_splitLead_19 : decode cX8_splitLead 19 = .ok (.goto 13, 3) := by decide +kernel
theorem dX8_splitLead_22 : decode cX8_splitLead 22 = .ok (.aload_n 0, 1) := by decide +kernel
theorem dX8_splitLead_23 : decode cX8_splitLead 23 = .ok (.getfield 47, 3) := by decide +kernel
theorem dX8_splitLead_26 : decode cX8_splitLead 26 = .ok (.aload_n 0, 1) := by decide +kernel
theorem dX8_splitLead_27 : decode cX8_splitLead 27 = .ok (.iload_n 1, 1) := by decide +kernel
theorem dX8_splitLead_28 : decode cX8_splitLead 28 = .ok (.invokevirtual 192, 3) := by decide +kernel
theorem dX8_splitLead_31 : decode cX8_splitLead 31 = .ok (.iaload, 1) := by decide +kernel
theorem dX8_splitLead_32 : decode cX8_splitLead 32 = .ok (.ireturn, 1) := by decide +kernel
theorem dX8_cutBy_0 : decode cX8_cutBy 0 = .ok (.iload_n 2, 1) := by decide +kernel
theorem dX8_cutBy_1 : decode cX8_cutBy 1 = .ok (.sipush 343, 3) := by decide +kernel
theorem dX8_cutBy_4 : decode cX8_cutBy 4 = .ok (.idiv, 1) := by decide +kernel
theorem dX8_cutBy_5 : decode cX8_cutBy 5 = .ok (.istore 4, 2) := by decide +kernel
theorem dX8_cutBy_7 : decode cX8_cutBy 7 = .ok (.iload_n 2, 1) := by decide +kernel
theorem dX8_cutBy_8 : decode cX8_cutBy 8 = .ok (.bipush 49, 2) := by decide +kernel
theorem dX8_cutBy_10 : decode cX8_cutBy 10 = .ok (.idiv, 1) := by decide +kernel
theorem dX8_cutBy_11 : decode cX8_cutBy 11 = .ok (.bipush 7, 2) := by decide +kernel
theorem dX8_cutBy_13 : decode cX8_cutBy 13 = .ok (.irem, 1) := by decide +kernel
theorem dX8_cutBy_14 : decode cX8_cutBy 14 = .ok (.istore 5, 2) := by decide +kernel
theorem dX8_cutBy_16 : decode cX8_cutBy 16 = .ok (.iload_n 2, 1) := by decide +kernel
theorem dX8_cutBy_17 : decode cX8_cutBy 17 = .ok (.bipush 7, 2) := by decide +kernel
theorem dX8_cutBy_19 : decode cX8_cutBy 19 = .ok (.idiv, 1) := by decide +kernel
theorem dX8_cutBy_20 : decode cX8_cutBy 20 = .ok (.bipush 7, 2) := by decide +kernel
theorem dX8_cutBy_22 : decode cX8_cutBy 22 = .ok (.irem, 1) := by decide +kernel
theorem dX8_cutBy_23 : decode cX8_cutBy 23 = .ok (.istore 6, 2) := by decide +kernel
theorem dX8_cutBy_25 : decode cX8_cutBy 25 = .ok (.iload_n 2, 1) := by decide +kernel
theorem dX8_cutBy_26 : decode cX8_cutBy 26 = .ok (.bipush 7, 2) := by decide +kernel
theorem dX8_cutBy_28 : decode cX8_cutBy 28 = .ok (.irem, 1) := by decide +kernel
theorem dX8_cutBy_29 : decode cX8_cutBy 29 = .ok (.istore 7, 2) := by decide +kernel
theorem dX8_cutBy_31 : decode cX8_cutBy 31 = .ok (.aload_n 0, 1) := by decide +kernel
theorem dX8_cutBy_32 : decode cX8_cutBy 32 = .ok (.getfield 50, 3) := by decide +kernel
theorem dX8_cutBy_35 : decode cX8_cutBy 35 = .ok (.iload_n 2, 1) := by decide +kernel
theorem dX8_cutBy_36 : decode cX8_cutBy 36 = .ok (.iaload, 1) := by decide +kernel
theorem dX8_cutBy_37 : decode cX8_cutBy 37 = .ok (.bipush 7, 2) := by decide +kernel
theorem dX8_cutBy_39 : decode cX8_cutBy 39 = .ok (.irem, 1) := by decide +kernel
theorem dX8_cutBy_40 : decode cX8_cutBy 40 = .ok (.istore 8, 2) := by decide +kernel
theorem dX8_cutBy_42 : decode cX8_cutBy 42 = .ok (.aload_n 0, 1) := by decide +kernel
theorem dX8_cutBy_43 : decode cX8_cutBy 43 = .ok (.getfield 50, 3) := by decide +kernel
theorem dX8_cutBy_46 : decode cX8_cutBy 46 = .ok (.iload_n 2, 1) := by decide +kernel
theorem dX8_cutBy_47 : decode cX8_cutBy 47 = .ok (.iaload, 1) := by decide +kernel
theorem dX8_cutBy_48 : decode cX8_cutBy 48 = .ok (.bipush 7, 2) := by decide +kernel
theorem dX8_cutBy_50 : decode cX8_cutBy 50 = .ok (.if_icmp .ge 7, 3) := by decide +kernel
theorem dX8_cutBy_53 : decode cX8_cutBy 53 = .ok (.iconst 1, 1) := by decide +kernel
theorem dX8_cutBy_54 : decode cX8_cutBy 54 = .ok (.goto 4, 3) := by decide +kernel
theorem dX8_cutBy_57 : decode cX8_cutBy 57 = .ok (.iconst 0, 1) := by decide +kernel
theorem dX8_cutBy_58 : decode cX8_cutBy 58 = .ok (.istore 9, 2) := by decide +kernel
theorem dX8_cutBy_60 : decode cX8_cutBy 60 = .ok (.iload 9, 2) := by decide +kernel
theorem dX8_cutBy_62 : decode cX8_cutBy 62 = .ok (.iconst 1, 1) := by decide +kernel
theorem dX8_cutBy_63 : decode cX8_cutBy 63 = .ok (.if_icmp .ne 8, 3) := by decide +kernel
theorem dX8_cutBy_66 : decode cX8_cutBy 66 = .ok (.iload 6, 2) := by decide +kernel
theorem dX8_cutBy_68 : decode cX8_cutBy 68 = .ok (.goto 5, 3) := by decide +kernel
theorem dX8_cutBy_71 : decode cX8_cutBy 71 = .ok (.iload 4, 2) := by decide +kernel
theorem dX8_cutBy_73 : decode cX8_cutBy 73 = .ok (.istore 10, 2) := by decide +kernel
theorem dX8_cutBy_75 : decode cX8_cutBy 75 = .ok (.iload 9, 2) := by decide +kernel
theorem dX8_cutBy_77 : decode cX8_cutBy 77 = .ok (.iconst 1, 1) := by decide +kernel
theorem dX8_cutBy_78 : decode cX8_cutBy 78 = .ok (.if_icmp .ne 8, 3) := by decide +kernel
theorem dX8_cutBy_81 : decode cX8_cutBy 81 = .ok (.iload 7, 2) := by decide +kernel
theorem dX8_cutBy_83 : decode cX8_cutBy 83 = .ok (.goto 5, 3) := by decide +kernel
theorem dX8_cutBy_86 : decode cX8_cutBy 86 = .ok (.iload 5, 2) := by decide +kernel
theorem dX8_cutBy_88 : decode cX8_cutBy 88 = .ok (.istore 11, 2) := by decide +kernel
theorem dX8_cutBy_90 : decode cX8_cutBy 90 = .ok (.iload 10, 2) := by decide +kernel
theorem dX8_cutBy_92 : decode cX8_cutBy 92 = .ok (.istore 12, 2) := by decide +kernel
theorem dX8_cutBy_94 : decode cX8_cutBy 94 = .ok (.iload 12, 2) := by decide +kernel
theorem dX8_cutBy_96 : decode cX8_cutBy 96 = .ok (.iload 11, 2) := by decide +kernel
theorem dX8_cutBy_98 : decode cX8_cutBy 98 = .ok (.if_icmp .gt 94, 3) := by decide +kernel
theorem dX8_cutBy_101 : decode cX8_cutBy 101 = .ok (.iload 9, 2) := by decide +kernel
theorem dX8_cutBy_103 : decode cX8_cutBy 103 = .ok (.iconst 1, 1) := by decide +kernel
theorem dX8_cutBy_104 : decode cX8_cutBy 104 = .ok (.if_icmp .ne 14, 3) := by decide +kernel
theorem dX8_cutBy_107 : decode cX8_cutBy 107 = .ok (.bipush 7, 2) := by decide +kernel
theorem dX8_cutBy_109 : decode cX8_cutBy 109 = .ok (.iload 8, 2) := by decide +kernel
theorem dX8_cutBy_111 : decode cX8_cutBy 111 = .ok (.imul, 1) := by decide +kernel
theorem dX8_cutBy_112 : decode cX8_cutBy 112 = .ok (.iload 12, 2) := by decide +kernel
theorem dX8_cutBy_114 : decode cX8_cutBy 114 = .ok (.iadd, 1) := by decide +kernel
theorem dX8_cutBy_115 : decode cX8_cutBy 115 = .ok (.goto 11, 3) := by decide +kernel
theorem dX8_cutBy_118 : decode cX8_cutBy 118 = .ok (.bipush 7, 2) := by decide +kernel
theorem dX8_cutBy_120 : decode cX8_cutBy 120 = .ok (.iload 12, 2) := by decide +kernel
theorem dX8_cutBy_122 : decode cX8_cutBy 122 = .ok (.imul, 1) := by decide +kernel
theorem dX8_cutBy_123 : decode cX8_cutBy 123 = .ok (.iload 8, 2) := by decide +kernel
theorem dX8_cutBy_125 : decode cX8_cutBy 125 = .ok (.iadd, 1) := by decide +kernel
theorem dX8_cutBy_126 : decode cX8_cutBy 126 = .ok (.istore 13, 2) := by decide +kernel
theorem dX8_cutBy_128 : decode cX8_cutBy 128 = .ok (.aload_n 0, 1) := by decide +kernel
theorem dX8_cutBy_129 : decode cX8_cutBy 129 = .ok (.getfield 7, 3) := by decide +kernel
theorem dX8_cutBy_132 : decode cX8_cutBy 132 = .ok (.bipush 53, 2) := by decide +kernel
theorem dX8_cutBy_134 : decode cX8_cutBy 134 = .ok (.bipush 49, 2) := by decide +kernel
theorem dX8_cutBy_136 : decode cX8_cutBy 136 = .ok (.iload 9, 2) := by decide +kernel
theorem dX8_cutBy_138 : decode cX8_cutBy 138 = .ok (.imul, 1) := by decide +kernel
theorem dX8_cutBy_139 : decode cX8_cutBy 139 = .ok (.iadd, 1) := by decide +kernel
theorem dX8_cutBy_140 : decode cX8_cutBy 140 = .ok (.iload 13, 2) := by decide +kernel
theorem dX8_cutBy_142 : decode cX8_cutBy 142 = .ok (.iadd, 1) := by decide +kernel
theorem dX8_cutBy_143 : decode cX8_cutBy 143 = .ok (.aload_n 0, 1) := by decide +kernel
theorem dX8_cutBy_144 : decode cX8_cutBy 144 = .ok (.getfield 25, 3) := by decide +kernel
theorem dX8_cutBy_147 : decode cX8_cutBy 147 = .ok (.iload 13, 2) := by decide +kernel
theorem dX8_cutBy_149 : decode cX8_cutBy 149 = .ok (.iaload, 1) := by decide +kernel
theorem dX8_cutBy_150 : decode cX8_cutBy 150 = .ok (.iload_n 1, 1) := by decide +kernel
theorem dX8_cutBy_151 : decode cX8_cutBy 151 = .ok (.if_icmp .ne 18, 3) := by decide +kernel
theorem dX8_cutBy_154 : decode cX8_cutBy 154 = .ok (.aload_n 0, 1) := by decide +kernel
theorem dX8_cutBy_155 : decode cX8_cutBy 155 = .ok (.iload 13, 2) := by decide +kernel
theorem dX8_cutBy_157 : decode cX8_cutBy 157 = .ok (.iload 9, 2) := by decide +kernel
theorem dX8_cutBy_159 : decode cX8_cutBy 159 = .ok (.invokevirtual 128, 3) := by decide +kernel
theorem dX8_cutBy_162 : decode cX8_cutBy 162 = .ok (.ifCond .eq 7, 3) := by decide +kernel
theorem dX8_cutBy_165 : decode cX8_cutBy 165 = .ok (.iconst 1, 1) := by decide +kernel
theorem dX8_cutBy_166 : decode cX8_cutBy 166 = .ok (.goto 19, 3) := by decide +kernel
theorem dX8_cutBy_169 : decode cX8_cutBy 169 = .ok (.aload_n 0, 1) := by decide +kernel
theorem dX8_cutBy_170 : decode cX8_cutBy 170 = .ok (.getfield 7, 3) := by decide +kernel
theorem dX8_cutBy_173 : decode cX8_cutBy 173 = .ok (.bipush 53, 2) := by decide +kernel
theorem dX8_cutBy_175 : decode cX8_cutBy 175 = .ok (.bipush 49, 2) := by decide +kernel
theorem dX8_cutBy_177 : decode cX8_cutBy 177 = .ok (.iload 9, 2) := by decide +kernel
theorem dX8_cutBy_179 : decode cX8_cutBy 179 = .ok (.imul, 1) := by decide +kernel
theorem dX8_cutBy_180 : decode cX8_cutBy 180 = .ok (.iadd, 1) := by decide +kernel
theorem dX8_cutBy_181 : decode cX8_cutBy 181 = .ok (.iload 13, 2) := by decide +kernel
theorem dX8_cutBy_183 : decode cX8_cutBy 183 = .ok (.iadd, 1) := by decide +kernel
theorem dX8_cutBy_184 : decode cX8_cutBy 184 = .ok (.iaload, 1) := by decide +kernel
theorem dX8_cutBy_185 : decode cX8_cutBy 185 = .ok (.iastore, 1) := by decide +kernel
theorem dX8_cutBy_186 : decode cX8_cutBy 186 = .ok (.iinc 12 1, 3) := by decide +kernel
theorem dX8_cutBy_189 : decode cX8_cutBy 189 = .ok (.goto (-95), 3) := by decide +kernel
theorem dX8_cutBy_192 : decode cX8_cutBy 192 = .ok (.aload_n 0, 1) := by decide +kernel
theorem dX8_cutBy_193 : decode cX8_cutBy 193 = .ok (.getfield 53, 3) := by decide +kernel
theorem dX8_cutBy_196 : decode cX8_cutBy 196 = .ok (.iload_n 3, 1) := by decide +kernel
theorem dX8_cutBy_197 : decode cX8_cutBy 197 = .ok (.iload 9, 2) := by decide +kernel
theorem dX8_cutBy_199 : decode cX8_cutBy 199 = .ok (.iconst 1, 1) := by decide +kernel
theorem dX8_cutBy_200 : decode cX8_cutBy 200 = .ok (.if_icmp .ne 17, 3) := by decide +kernel
theorem dX8_cutBy_203 : decode cX8_cutBy 203 = .ok (.iload 4, 2) := by decide +kernel
theorem dX8_cutBy_205 : decode cX8_cutBy 205 = .ok (.iload 8, 2) := by decide +kernel
theorem dX8_cutBy_207 : decode cX8_cutBy 207 = .ok (.iload 6, 2) := by decide +kernel
theorem dX8_cutBy_209 : decode cX8_cutBy 209 = .ok (.iload 7, 2) := by decide +kernel
theorem dX8_cutBy_211 : decode cX8_cutBy 211 = .ok (.invokestatic 171, 3) := by decide +kernel
theorem dX8_cutBy_214 : decode cX8_cutBy 214 = .ok (.goto 14, 3) := by decide +kernel
theorem dX8_cutBy_217 : decode cX8_cutBy 217 = .ok (.iload 4, 2) := by decide +kernel
theorem dX8_cutBy_219 : decode cX8_cutBy 219 = .ok (.iload 5, 2) := by decide +kernel
theorem dX8_cutBy_221 : decode cX8_cutBy 221 = .ok (.iload 6, 2) := by decide +kernel
theorem dX8_cutBy_223 : decode cX8_cutBy 223 = .ok (.iload 8, 2) := by decide +kernel
theorem dX8_cutBy_225 : decode cX8_cutBy 225 = .ok (.invokestatic 171, 3) := by decide +kernel
theorem dX8_cutBy_228 : decode cX8_cutBy 228 = .ok (.iastore, 1) := by decide +kernel
theorem dX8_cutBy_229 : decode cX8_cutBy 229 = .ok (.aload_n 0, 1) := by decide +kernel
theorem dX8_cutBy_230 : decode cX8_cutBy 230 = .ok (.getfield 53, 3) := by decide +kernel
theorem dX8_cutBy_233 : decode cX8_cutBy 233 = .ok (.iload_n 3, 1) := by decide +kernel
theorem dX8_cutBy_234 : decode cX8_cutBy 234 = .ok (.iconst 1, 1) := by decide +kernel
theorem dX8_cutBy_235 : decode cX8_cutBy 235 = .ok (.iadd, 1) := by decide +kernel
theorem dX8_cutBy_236 : decode cX8_cutBy 236 = .ok (.iload 9, 2) := by decide +kernel
theorem dX8_cutBy_238 : decode cX8_cutBy 238 = .ok (.iconst 1, 1) := by decide +kernel
theorem dX8_cutBy_239 : decode cX8_cutBy 239 = .ok (.if_icmp .ne 19, 3) := by decide +kernel
theorem dX8_cutBy_242 : decode cX8_cutBy 242 = .ok (.iload 8, 2) := by decide +kernel
theorem dX8_cutBy_244 : decode cX8_cutBy 244 = .ok (.iconst 1, 1) := by decide +kernel
theorem dX8_cutBy_245 : decode cX8_cutBy 245 = .ok (.iadd, 1) := by decide +kernel
theorem dX8_cutBy_246 : decode cX8_cutBy 246 = .ok (.iload 5, 2) := by decide +kernel
theorem dX8_cutBy_248 : decode cX8_cutBy 248 = .ok (.iload 6, 2) := by decide +kernel
theorem dX8_cutBy_250 : decode cX8_cutBy 250 = .ok (.iload 7, 2) := by decide +kernel
theorem dX8_cutBy_252 : decode cX8_cutBy 252 = .ok (.invokestatic 171, 3) := by decide +kernel
theorem dX8_cutBy_255 : decode cX8_cutBy 255 = .ok (.goto 16, 3) := by decide +kernel
theorem dX8_cutBy_258 : decode cX8_cutBy 258 = .ok (.iload 4, 2) := by decide +kernel
theorem dX8_cutBy_260 : decode cX8_cutBy 260 = .ok (.iload 5, 2) := by decide +kernel
theorem dX8_cutBy_262 : decode cX8_cutBy 262 = .ok (.iload 8, 2) := by decide +kernel
theorem dX8_cutBy_264 : decode cX8_cutBy 264 = .ok (.iconst 1, 1) := by decide +kernel
theorem dX8_cutBy_265 : decode cX8_cutBy 265 = .ok (.iadd, 1) := by decide +kernel
theorem dX8_cutBy_266 : decode cX8_cutBy 266 = .ok (.iload 7, 2) := by decide +kernel
theorem dX8_cutBy_268 : decode cX8_cutBy 268 = .ok (.invokestatic 171, 3) := by decide +kernel
theorem dX8_cutBy_271 : decode cX8_cutBy 271 = .ok (.iastore, 1) := by decide +kernel
theorem dX8_cutBy_272 : decode cX8_cutBy 272 = .ok (.iload_n 3, 1) := by decide +kernel
theorem dX8_cutBy_273 : decode cX8_cutBy 273 = .ok (.iconst 2, 1) := by decide +kernel
theorem dX8_cutBy_274 : decode cX8_cutBy 274 = .ok (.iadd, 1) := by decide +kernel
theorem dX8_cutBy_275 : decode cX8_cutBy 275 = .ok (.ireturn, 1) := by decide +kernel
theorem dX8_applySplit_0 : decode cX8_applySplit 0 = .ok (.aload_n 0, 1) := by decide +kernel
theorem dX8_applySplit_1 : decode cX8_applySplit 1 = .ok (.iload_n 1, 1) := by decide +kernel
theorem dX8_applySplit_2 : decode cX8_applySplit 2 = .ok (.invokevirtual 156, 3) := by decide +kernel
theorem dX8_applySplit_5 : decode cX8_applySplit 5 = .ok (.ifCond .ne 5, 3) := by decide +kernel
theorem dX8_applySplit_8 : decode cX8_applySplit 8 = .ok (.iconst (-1), 1) := by decide +kernel
theorem dX8_applySplit_9 : decode cX8_applySplit 9 = .ok (.ireturn, 1) := by decide +kernel
theorem dX8_applySplit_10 : decode cX8_applySplit 10 = .ok (.aload_n 0, 1) := by decide +kernel
theorem dX8_applySplit_11 : decode cX8_applySplit 11 = .ok (.iload_n 1, 1) := by decide +kernel
theorem dX8_applySplit_12 : decode cX8_applySplit 12 = .ok (.invokevirtual 159, 3) := by decide +kernel
theorem dX8_applySplit_15 : decode cX8_applySplit 15 = .ok (.ifCond .eq 6, 3) := by decide +kernel
theorem dX8_applySplit_18 : decode cX8_applySplit 18 = .ok (.bipush (-2), 2) := by decide +kernel
theorem dX8_applySplit_20 : decode cX8_applySplit 20 = .ok (.ireturn, 1) := by decide +kernel
theorem dX8_applySplit_21 : decode cX8_applySplit 21 = .ok (.aload_n 0, 1) := by decide +kernel
theorem dX8_applySplit_22 : decode cX8_applySplit 22 = .ok (.invokevirtual 73, 3) := by decide +kernel
theorem dX8_applySplit_25 : decode cX8_applySplit 25 = .ok (.aload_n 0, 1) := by decide +kernel
theorem dX8_applySplit_26 : decode cX8_applySplit 26 = .ok (.getfield 53, 3) := by decide +kernel
theorem dX8_applySplit_29 : decode cX8_applySplit 29 = .ok (.iconst 0, 1) := by decide +kernel
theorem dX8_applySplit_30 : decode cX8_applySplit 30 = .ok (.aload_n 0, 1) := by decide +kernel
theorem dX8_applySplit_31 : decode cX8_applySplit 31 = .ok (.iload_n 1, 1) := by decide +kernel
theorem dX8_applySplit_32 : decode cX8_applySplit 32 = .ok (.invokevirtual 192, 3) := by decide +kernel
theorem dX8_applySplit_35 : decode cX8_applySplit 35 = .ok (.iastore, 1) := by decide +kernel
theorem dX8_applySplit_36 : decode cX8_applySplit 36 = .ok (.iconst 1, 1) := by decide +kernel
theorem dX8_applySplit_37 : decode cX8_applySplit 37 = .ok (.istore_n 2, 1) := by decide +kernel
theorem dX8_applySplit_38 : decode cX8_applySplit 38 = .ok (.iload_n 2, 1) := by decide +kernel
theorem dX8_applySplit_39 : decode cX8_applySplit 39 = .ok (.ifCond .le 38, 3) := by decide +kernel
theorem dX8_applySplit_42 : decode cX8_applySplit 42 = .ok (.iinc 2 (-1), 3) := by decide +kernel
theorem dX8_applySplit_45 : decode cX8_applySplit 45 = .ok (.aload_n 0, 1) := by decide +kernel
theorem dX8_applySplit_46 : decode cX8_applySplit 46 = .ok (.getfield 53, 3) := by decide +kernel
theorem dX8_applySplit_49 : decode cX8_applySplit 49 = .ok (.iload_n 2, 1) := by decide +kernel
theorem dX8_applySplit_50 : decode cX8_applySplit 50 = .ok (.iaload, 1) := by decide +kernel
theorem dX8_applySplit_51 : decode cX8_applySplit 51 = .ok (.istore_n 3, 1) := by decide +kernel
theorem dX8_applySplit_52 : decode cX8_applySplit 52 = .ok (.aload_n 0, 1) := by decide +kernel
theorem dX8_applySplit_53 : decode cX8_applySplit 53 = .ok (.getfield 50, 3) := by decide +kernel
theorem dX8_applySplit_56 : decode cX8_applySplit 56 = .ok (.iload_n 3, 1) := by decide +kernel
theorem dX8_applySplit_57 : decode cX8_applySplit 57 = .ok (.iaload, 1) := by decide +kernel
theorem dX8_applySplit_58 : decode cX8_applySplit 58 = .ok (.iconst (-1), 1) := by decide +kernel
theorem dX8_applySplit_59 : decode cX8_applySplit 59 = .ok (.if_icmp .ne 7, 3) := by decide +kernel
theorem dX8_applySplit_62 : decode cX8_applySplit 62 = .ok (.iload_n 2, 1) := by decide +kernel
theorem dX8_applySplit_63 : decode cX8_applySplit 63 = .ok (.goto 10, 3) := by decide +kernel
theorem dX8_applySplit_66 : decode cX8_applySplit 66 = .ok (.aload_n 0, 1) := by decide +kernel
theorem dX8_applySplit_67 : decode cX8_applySplit 67 = .ok (.iload_n 1, 1) := by decide +kernel
theorem dX8_applySplit_68 : decode cX8_applySplit 68 = .ok (.iload_n 3, 1) := by decide +kernel
theorem dX8_applySplit_69 : decode cX8_applySplit 69 = .ok (.iload_n 2, 1) := by decide +kernel
theorem dX8_applySplit_70 : decode cX8_applySplit 70 = .ok (.invokevirtual 195, 3) := by decide +kernel
theorem dX8_applySplit_73 : decode cX8_applySplit 73 = .ok (.istore_n 2, 1) := by decide +kernel
theorem dX8_applySplit_74 : decode cX8_applySplit 74 = .ok (.goto (-36), 3) := by decide +kernel
theorem dX8_applySplit_77 : decode cX8_applySplit 77 = .ok (.aload_n 0, 1) := by decide +kernel
theorem dX8_applySplit_78 : decode cX8_applySplit 78 = .ok (.invokevirtual 89, 3) := by decide +kernel
theorem dX8_applySplit_81 : decode cX8_applySplit 81 = .ok (.aload_n 0, 1) := by decide +kernel
theorem dX8_applySplit_82 : decode cX8_applySplit 82 = .ok (.getfield 92, 3) := by decide +kernel
theorem dX8_applySplit_85 : decode cX8_applySplit 85 = .ok (.ireturn, 1) := by decide +kernel
theorem dX8_equalNeighbours_0 : decode cX8_equalNeighbours 0 = .ok (.aload_n 0, 1) := by decide +kernel
theorem dX8_equalNeighbours_1 : decode cX8_equalNeighbours 1 = .ok (.invokevirtual 168, 3) := by decide +kernel
theorem dX8_equalNeighbours_4 : decode cX8_equalNeighbours 4 = .ok (.istore_n 1, 1) := by decide +kernel
theorem dX8_equalNeighbours_5 : decode cX8_equalNeighbours 5 = .ok (.iconst 0, 1) := by decide +kernel
theorem dX8_equalNeighbours_6 : decode cX8_equalNeighbours 6 = .ok (.istore_n 2, 1) := by decide +kernel
theorem dX8_equalNeighbours_7 : decode cX8_equalNeighbours 7 = .ok (.iconst 0, 1) := by decide +kernel
theorem dX8_equalNeighbours_8 : decode cX8_equalNeighbours 8 = .ok (.istore_n 3, 1) := by decide +kernel
theorem dX8_equalNeighbours_9 : decode cX8_equalNeighbours 9 = .ok (.iload_n 3, 1) := by decide +kernel
theorem dX8_equalNeighbours_10 : decode cX8_equalNeighbours 10 = .ok (.bipush 49, 2) := by decide +kernel
theorem dX8_equalNeighbours_12 : decode cX8_equalNeighbours 12 = .ok (.if_icmp .ge 145, 3) := by decide +kernel
theorem dX8_equalNeighbours_15 : decode cX8_equalNeighbours 15 = .ok (.iconst 0, 1) := by decide +kernel
theorem dX8_equalNeighbours_16 : decode cX8_equalNeighbours 16 = .ok (.istore 4, 2) := by decide +kernel
theorem dX8_equalNeighbours_18 : decode cX8_equalNeighbours 18 = .ok (.iload 4, 2) := by decide +kernel
theorem dX8_equalNeighbours_20 : decode cX8_equalNeighbours 20 = .ok (.bipush 49, 2) := by decide +kernel
theorem dX8_equalNeighbours_22 : decode cX8_equalNeighbours 22 = .ok (.if_icmp .ge 129, 3) := by decide +kernel
theorem dX8_equalNeighbours_25 : decode cX8_equalNeighbours 25 = .ok (.aload_n 0, 1) := by decide +kernel
theorem dX8_equalNeighbours_26 : decode cX8_equalNeighbours 26 = .ok (.getfield 25, 3) := by decide +kernel
theorem dX8_equalNeighbours_29 : decode cX8_equalNeighbours 29 = .ok (.iload_n 3, 1) := by decide +kernel
theorem dX8_equalNeighbours_30 : decode cX8_equalNeighbours 30 = .ok (.iaload, 1) := by decide +kernel
theorem dX8_equalNeighbours_31 : decode cX8_equalNeighbours 31 = .ok (.ifCond .lt 53, 3) := by decide +kernel
theorem dX8_equalNeighbours_34 : decode cX8_equalNeighbours 34 = .ok (.aload_n 0, 1) := by decide +kernel
theorem dX8_equalNeighbours_35 : decode cX8_equalNeighbours 35 = .ok (.getfield 25, 3) := by decide +kernel
theorem dX8_equalNeighbours_38 : decode cX8_equalNeighbours 38 = .ok (.iload 4, 2) := by decide +kernel
theorem dX8_equalNeighbours_40 : decode cX8_equalNeighbours 40 = .ok (.iaload, 1) := by decide +kernel
theorem dX8_equalNeighbours_41 : decode cX8_equalNeighbours 41 = .ok (.aload_n 0, 1) := by decide +kernel
theorem dX8_equalNeighbours_42 : decode cX8_equalNeighbours 42 = .ok (.getfield 25, 3) := by decide +kernel
theorem dX8_equalNeighbours_45 : decode cX8_equalNeighbours 45 = .ok (.iload_n 3, 1) := by decide +kernel
theorem dX8_equalNeighbours_46 : decode cX8_equalNeighbours 46 = .ok (.iaload, 1) := by decide +kernel
theorem dX8_equalNeighbours_47 : decode cX8_equalNeighbours 47 = .ok (.if_icmp .le 37, 3) := by decide +kernel
theorem dX8_equalNeighbours_50 : decode cX8_equalNeighbours 50 = .ok (.aload_n 0, 1) := by decide +kernel
theorem dX8_equalNeighbours_51 : decode cX8_equalNeighbours 51 = .ok (.aload_n 0, 1) := by decide +kernel
theorem dX8_equalNeighbours_52 : decode cX8_equalNeighbours 52 = .ok (.getfield 25, 3) := by decide +kernel
theorem dX8_equalNeighbours_55 : decode cX8_equalNeighbours 55 = .ok (.iload_n 3, 1) := by decide +kernel
theorem dX8_equalNeighbours_56 : decode cX8_equalNeighbours 56 = .ok (.iaload, 1) := by decide +kernel
theorem dX8_equalNeighbours_57 : decode cX8_equalNeighbours 57 = .ok (.invokevirtual 199, 3) := by decide +kernel
theorem dX8_equalNeighbours_60 : decode cX8_equalNeighbours 60 = .ok (.iload_n 3, 1) := by decide +kernel
theorem dX8_equalNeighbours_61 : decode cX8_equalNeighbours 61 = .ok (.if_icmp .ne 23, 3) := by decide +kernel
theorem dX8_equalNeighbours_64 : decode cX8_equalNeighbours 64 = .ok (.aload_n 0, 1) := by decide +kernel
theorem dX8_equalNeighbours_65 : decode cX8_equalNeighbours 65 = .ok (.aload_n 0, 1) := by decide +kernel
theorem dX8_equalNeighbours_66 : decode cX8_equalNeighbours 66 = .ok (.getfield 25, 3) := by decide +kernel
theorem dX8_equalNeighbours_69 : decode cX8_equalNeighbours 69 = .ok (.iload 4, 2) := by decide +kernel
theorem dX8_equalNeighbours_71 : decode cX8_equalNeighbours 71 = .ok (.iaload, 1) := by decide +kernel
theorem dX8_equalNeighbours_72 : decode cX8_equalNeighbours 72 = .ok (.invokevirtual 199, 3) := by decide +kernel
theorem dX8_equalNeighbours_75 : decode cX8_equalNeighbours 75 = .ok (.iload 4, 2) := by decide +kernel
theorem dX8_equalNeighbours_77 : decode cX8_equalNeighbours 77 = .ok (.if_icmp .ne 7, 3) := by decide +kernel
theorem dX8_equalNeighbours_80 : decode cX8_equalNeighbours 80 = .ok (.iconst 1, 1) := by decide +kernel
theorem dX8_equalNeighbours_81 : decode cX8_equalNeighbours 81 = .ok (.goto 4, 3) := by decide +kernel
theorem dX8_equalNeighbours_84 : decode cX8_equalNeighbours 84 = .ok (.iconst 0, 1) := by decide +kernel
theorem dX8_equalNeighbours_85 : decode cX8_equalNeighbours 85 = .ok (.istore 5, 2) := by decide +kernel
theorem dX8_equalNeighbours_87 : decode cX8_equalNeighbours 87 = .ok (.iload_n 2, 1) := by decide +kernel
theorem dX8_equalNeighbours_88 : decode cX8_equalNeighbours 88 = .ok (.iload 5, 2) := by decide +kernel
theorem dX8_equalNeighbours_90 : decode cX8_equalNeighbours 90 = .ok (.ifCond .eq 52, 3) := by decide +kernel
theorem dX8_equalNeighbours_93 : decode cX8_equalNeighbours 93 = .ok (.aload_n 0, 1) := by decide +kernel
theorem dX8_equalNeighbours_94 : decode cX8_equalNeighbours 94 = .ok (.getfield 38, 3) := by decide +kernel
theorem dX8_equalNeighbours_97 : decode cX8_equalNeighbours 97 = .ok (.bipush 49, 2) := by decide +kernel
theorem dX8_equalNeighbours_99 : decode cX8_equalNeighbours 99 = .ok (.aload_n 0, 1) := by decide +kernel
theorem dX8_equalNeighbours_100 : decode cX8_equalNeighbours 100 = .ok (.getfield 25, 3) := by decide +kernel
theorem dX8_equalNeighbours_103 : decode cX8_equalNeighbours 103 = .ok (.iload_n 3, 1) := by decide +kernel
theorem dX8_equalNeighbours_104 : decode cX8_equalNeighbours 104 = .ok (.iaload, 1) := by decide +kernel
theorem dX8_equalNeighbours_105 : decode cX8_equalNeighbours 105 = .ok (.imul, 1) := by decide +kernel
theorem dX8_equalNeighbours_106 : decode cX8_equalNeighbours 106 = .ok (.aload_n 0, 1) := by decide +kernel
theorem dX8_equalNeighbours_107 : decode cX8_equalNeighbours 107 = .ok (.getfield 25, 3) := by decide +kernel
theorem dX8_equalNeighbours_110 : decode cX8_equalNeighbours 110 = .ok (.iload 4, 2) := by decide +kernel
theorem dX8_equalNeighbours_112 : decode cX8_equalNeighbours 112 = .ok (.iaload, 1) := by decide +kernel
theorem dX8_equalNeighbours_113 : decode cX8_equalNeighbours 113 = .ok (.iadd, 1) := by decide +kernel
theorem dX8_equalNeighbours_114 : decode cX8_equalNeighbours 114 = .ok (.baload, 1) := by decide +kernel
theorem dX8_equalNeighbours_115 : decode cX8_equalNeighbours 115 = .ok (.ifCond .eq 27, 3) := by decide +kernel
theorem dX8_equalNeighbours_118 : decode cX8_equalNeighbours 118 = .ok (.aload_n 0, 1) := by decide +kernel
theorem dX8_equalNeighbours_119 : decode cX8_equalNeighbours 119 = .ok (.getfield 7, 3) := by decide +kernel
theorem dX8_equalNeighbours_122 : decode cX8_equalNeighbours 122 = .ok (.iconst 4, 1) := by decide +kernel
theorem dX8_equalNeighbours_123 : decode cX8_equalNeighbours 123 = .ok (.iload_n 3, 1) := by decide +kernel
theorem dX8_equalNeighbours_124 : decode cX8_equalNeighbours 124 = .ok (.iadd, 1) := by decide +kernel
theorem dX8_equalNeighbours_125 : decode cX8_equalNeighbours 125 = .ok (.iaload, 1) := by decide +kernel
theorem dX8_equalNeighbours_126 : decode cX8_equalNeighbours 126 = .ok (.aload_n 0, 1) := by decide +kernel
theorem dX8_equalNeighbours_127 : decode cX8_equalNeighbours 127 = .ok (.getfield 7, 3) := by decide +kernel
theorem dX8_equalNeighbours_130 : decode cX8_equalNeighbours 130 = .ok (.iconst 4, 1) := by decide +kernel
theorem dX8_equalNeighbours_131 : decode cX8_equalNeighbours 131 = .ok (.iload 4, 2) := by decide +kernel
theorem dX8_equalNeighbours_133 : decode cX8_equalNeighbours 133 = .ok (.iadd, 1) := by decide +kernel
theorem dX8_equalNeighbours_134 : decode cX8_equalNeighbours 134 = .ok (.iaload, 1) := by decide +kernel
theorem dX8_equalNeighbours_135 : decode cX8_equalNeighbours 135 = .ok (.if_icmp .ne 7, 3) := by decide +kernel
theorem dX8_equalNeighbours_138 : decode cX8_equalNeighbours 138 = .ok (.iconst 1, 1) := by decide +kernel
theorem dX8_equalNeighbours_139 : decode cX8_equalNeighbours 139 = .ok (.goto 4, 3) := by decide +kernel
theorem dX8_equalNeighbours_142 : decode cX8_equalNeighbours 142 = .ok (.iconst 0, 1) := by decide +kernel
theorem dX8_equalNeighbours_143 : decode cX8_equalNeighbours 143 = .ok (.iadd, 1) := by decide +kernel
theorem dX8_equalNeighbours_144 : decode cX8_equalNeighbours 144 = .ok (.istore_n 2, 1) := by decide +kernel
theorem dX8_equalNeighbours_145 : decode cX8_equalNeighbours 145 = .ok (.iinc 4 1, 3) := by decide +kernel
theorem dX8_equalNeighbours_148 : decode cX8_equalNeighbours 148 = .ok (.goto (-130), 3) := by decide +kernel
theorem dX8_equalNeighbours_151 : decode cX8_equalNeighbours 151 = .ok (.iinc 3 1, 3) := by decide +kernel
theorem dX8_equalNeighbours_154 : decode cX8_equalNeighbours 154 = .ok (.goto (-145), 3) := by decide +kernel
theorem dX8_equalNeighbours_157 : decode cX8_equalNeighbours 157 = .ok (.iload_n 2, 1) := by decide +kernel
theorem dX8_equalNeighbours_158 : decode cX8_equalNeighbours 158 = .ok (.ireturn, 1) := by decide +kernel
theorem dX8_firstOf_0 : decode cX8_firstOf 0 = .ok (.iconst 0, 1) := by decide +kernel
theorem dX8_firstOf_1 : decode cX8_firstOf 1 = .ok (.istore_n 2, 1) := by decide +kernel
theorem dX8_firstOf_2 : decode cX8_firstOf 2 = .ok (.aload_n 0, 1) := by decide +kernel
theorem dX8_firstOf_3 : decode cX8_firstOf 3 = .ok (.getfield 25, 3) := by decide +kernel
theorem dX8_firstOf_6 : decode cX8_firstOf 6 = .ok (.iload_n 2, 1) := by decide +kernel
theorem dX8_firstOf_7 : decode cX8_firstOf 7 = .ok (.iaload, 1) := by decide +kernel
theorem dX8_firstOf_8 : decode cX8_firstOf 8 = .ok (.iload_n 1, 1) := by decide +kernel
theorem dX8_firstOf_9 : decode cX8_firstOf 9 = .ok (.if_icmp .eq 9, 3) := by decide +kernel
theorem dX8_firstOf_12 : decode cX8_firstOf 12 = .ok (.iinc 2 1, 3) := by decide +kernel
theorem dX8_firstOf_15 : decode cX8_firstOf 15 = .ok (.goto (-13), 3) := by decide +kernel
theorem dX8_firstOf_18 : decode cX8_firstOf 18 = .ok (.iload_n 2, 1) := by decide +kernel
theorem dX8_firstOf_19 : decode cX8_firstOf 19 = .ok (.ireturn, 1) := by decide +kernel
theorem dX8_leftNear_0 : decode cX8_leftNear 0 = .ok (.iconst 0, 1) := by decide +kernel
theorem dX8_leftNear_1 : decode cX8_leftNear 1 = .ok (.istore_n 2, 1) := by decide +kernel
theorem dX8_leftNear_2 : decode cX8_leftNear 2 = .ok (.iconst 0, 1) := by decide +kernel
theorem dX8_leftNear_3 : decode cX8_leftNear 3 = .ok (.istore_n 3, 1) := by decide +kernel
theorem dX8_leftNear_4 : decode cX8_leftNear 4 = .ok (.iload_n 3, 1) := by decide +kernel
theorem dX8_leftNear_5 : decode cX8_leftNear 5 = .ok (.aload_n 0, 1) := by decide +kernel
theorem dX8_leftNear_6 : decode cX8_leftNear 6 = .ok (.getfield 92, 3) := by decide +kernel
theorem dX8_leftNear_9 : decode cX8_leftNear 9 = .ok (.if_icmp .ge 40, 3) := by decide +kernel
theorem dX8_leftNear_12 : decode cX8_leftNear 12 = .ok (.iload_n 2, 1) := by decide +kernel
theorem dX8_leftNear_13 : decode cX8_leftNear 13 = .ok (.aload_n 0, 1) := by decide +kernel
theorem dX8_leftNear_14 : decode cX8_leftNear 14 = .ok (.getfield 38, 3) := by decide +kernel
theorem dX8_leftNear_17 : decode cX8_leftNear 17 = .ok (.bipush 49, 2) := by decide +kernel
theorem dX8_leftNear_19 : decode cX8_leftNear 19 = .ok (.iload_n 1, 1) := by decide +kernel
theorem dX8_leftNear_20 : decode cX8_leftNear 20 = .ok (.imul, 1) := by decide +kernel
theorem dX8_leftNear_21 : decode cX8_leftNear 21 = .ok (.iload_n 3, 1) := by decide +kernel
theorem dX8_leftNear_22 : decode cX8_leftNear 22 = .ok (.iadd, 1) := by decide +kernel
theorem dX8_leftNear_23 : decode cX8_leftNear 23 = .ok (.baload, 1) := by decide +kernel
theorem dX8_leftNear_24 : decode cX8_leftNear 24 = .ok (.ifCond .eq 16, 3) := by decide +kernel
theorem dX8_leftNear_27 : decode cX8_leftNear 27 = .ok (.aload_n 0, 1) := by decide +kernel
theorem dX8_leftNear_28 : decode cX8_leftNear 28 = .ok (.getfield 59, 3) := by decide +kernel
theorem dX8_leftNear_31 : decode cX8_leftNear 31 = .ok (.iload_n 3, 1) := by decide +kernel
theorem dX8_leftNear_32 : decode cX8_leftNear 32 = .ok (.baload, 1) := by decide +kernel
theorem dX8_leftNear_33 : decode cX8_leftNear 33 = .ok (.ifCond .ne 7, 3) := by decide +kernel
theorem dX8_leftNear_36 : decode cX8_leftNear 36 = .ok (.iconst 1, 1) := by decide +kernel
theorem dX8_leftNear_37 : decode cX8_leftNear 37 = .ok (.goto 4, 3) := by decide +kernel
theorem dX8_leftNear_40 : decode cX8_leftNear 40 = .ok (.iconst 0, 1) := by decide +kernel
theorem dX8_leftNear_41 : decode cX8_leftNear 41 = .ok (.iadd, 1) := by decide +kernel
theorem dX8_leftNear_42 : decode cX8_leftNear 42 = .ok (.istore_n 2, 1) := by decide +kernel
theorem dX8_leftNear_43 : decode cX8_leftNear 43 = .ok (.iinc 3 1, 3) := by decide +kernel
theorem dX8_leftNear_46 : decode cX8_leftNear 46 = .ok (.goto (-42), 3) := by decide +kernel
theorem dX8_leftNear_49 : decode cX8_leftNear 49 = .ok (.iload_n 2, 1) := by decide +kernel
theorem dX8_leftNear_50 : decode cX8_leftNear 50 = .ok (.ireturn, 1) := by decide +kernel
theorem dX8_nextPane_0 : decode cX8_nextPane 0 = .ok (.iconst (-1), 1) := by decide +kernel
theorem dX8_nextPane_1 : decode cX8_nextPane 1 = .ok (.istore_n 2, 1) := by decide +kernel
theorem dX8_nextPane_2 : decode cX8_nextPane 2 = .ok (.iconst 0, 1) := by decide +kernel
theorem dX8_nextPane_3 : decode cX8_nextPane 3 = .ok (.istore_n 3, 1) := by decide +kernel
theorem dX8_nextPane_4 : decode cX8_nextPane 4 = .ok (.iconst 0, 1) := by decide +kernel
theorem dX8_nextPane_5 : decode cX8_nextPane 5 = .ok (.istore 4, 2) := by decide +kernel
theorem dX8_nextPane_7 : decode cX8_nextPane 7 = .ok (.iload 4, 2) := by decide +kernel
theorem dX8_nextPane_9 : decode cX8_nextPane 9 = .ok (.aload_n 0, 1) := by decide +kernel
theorem dX8_nextPane_10 : decode cX8_nextPane 10 = .ok (.getfield 92, 3) := by decide +kernel
theorem dX8_nextPane_13 : decode cX8_nextPane 13 = .ok (.if_icmp .ge 68, 3) := by decide +kernel
theorem dX8_nextPane_16 : decode cX8_nextPane 16 = .ok (.iload_n 1, 1) := by decide +kernel
theorem dX8_nextPane_17 : decode cX8_nextPane 17 = .ok (.ifCond .ne 7, 3) := by decide +kernel
theorem dX8_nextPane_20 : decode cX8_nextPane 20 = .ok (.iconst 0, 1) := by decide +kernel
theorem dX8_nextPane_21 : decode cX8_nextPane 21 = .ok (.goto 25, 3) := by decide +kernel
theorem dX8_nextPane_24 : decode cX8_nextPane 24 = .ok (.iload_n 1, 1) := by decide +kernel
theorem dX8_nextPane_25 : decode cX8_nextPane 25 = .ok (.iconst 1, 1) := by decide +kernel
theorem dX8_nextPane_26 : decode cX8_nextPane 26 = .ok (.if_icmp .ne 14, 3) := by decide +kernel
theorem dX8_nextPane_29 : decode cX8_nextPane 29 = .ok (.aload_n 0, 1) := by decide +kernel
theorem dX8_nextPane_30 : decode cX8_nextPane 30 = .ok (.getfield 41, 3) := by decide +kernel
theorem dX8_nextPane_33 : decode cX8_nextPane 33 = .ok (.iload 4, 2) := by decide +kernel
theorem dX8_nextPane_35 : decode cX8_nextPane 35 = .ok (.iaload, 1) := by decide +kernel
theorem dX8_nextPane_36 : decode cX8_nextPane 36 = .ok (.ineg, 1) := by decide +kernel
theorem dX8_nextPane_37 : decode cX8_nextPane 37 = .ok (.goto 9, 3) := by decide +kernel
theorem dX8_nextPane_40 : decode cX8_nextPane 40 = .ok (.aload_n 0, 1) := by decide +kernel
theorem dX8_nextPane_41 : decode cX8_nextPane 41 = .ok (.iload 4, 2) := by decide +kernel
theorem dX8_nextPane_43 : decode cX8_nextPane 43 = .ok (.invokevirtual 202, 3) := by decide +kernel
theorem dX8_nextPane_46 : decode cX8_nextPane 46 = .ok (.istore 5, 2) := by decide +kernel
theorem dX8_nextPane_48 : decode cX8_nextPane 48 = .ok (.aload_n 0, 1) := by decide +kernel
theorem dX8_nextPane_49 : decode cX8_nextPane 49 = .ok (.getfield 59, 3) := by decide +kernel
theorem dX8_nextPane_52 : decode cX8_nextPane 52 = .ok (.iload 4, 2) := by decide +kernel
theorem dX8_nextPane_54 : decode cX8_nextPane 54 = .ok (.baload, 1) := by decide +kernel
theorem dX8_nextPane_55 : decode cX8_nextPane 55 = .ok (.ifCond .ne 20, 3) := by decide +kernel
theorem dX8_nextPane_58 : decode cX8_nextPane 58 = .ok (.iload_n 2, 1) := by decide +kernel
theorem dX8_nextPane_59 : decode cX8_nextPane 59 = .ok (.iconst (-1), 1) := by decide +kernel
theorem dX8_nextPane_60 : decode cX8_nextPane 60 = .ok (.if_icmp .eq 9, 3) := by decide +kernel
theorem dX8_nextPane_63 : decode cX8_nextPane 63 = .ok (.iload 5, 2) := by decide +kernel
theorem dX8_nextPane_65 : decode cX8_nextPane 65 = .ok (.iload_n 3, 1) := by decide +kernel
theorem dX8_nextPane_66 : decode cX8_nextPane 66 = .ok (.if_icmp .ge 9, 3) := by decide +kernel
theorem dX8_nextPane_69 : decode cX8_nextPane 69 = .ok (.iload 4, 2) := by decide +kernel
theorem dX8_nextPane_71 : decode cX8_nextPane 71 = .ok (.istore_n 2, 1) := by decide +kernel
theorem dX8_nextPane_72 : decode cX8_nextPane 72 = .ok (.iload 5, 2) := by decide +kernel
theorem dX8_nextPane_74 : decode cX8_nextPane 74 = .ok (.istore_n 3, 1) := by decide +kernel
theorem dX8_nextPane_75 : decode cX8_nextPane 75 = .ok (.iinc 4 1, 3) := by decide +kernel
theorem dX8_nextPane_78 : decode cX8_nextPane 78 = .ok (.goto (-71), 3) := by decide +kernel
theorem dX8_nextPane_81 : decode cX8_nextPane 81 = .ok (.iload_n 2, 1) := by decide +kernel
theorem dX8_nextPane_82 : decode cX8_nextPane 82 = .ok (.ireturn, 1) := by decide +kernel
theorem dX8_colourOne_0 : decode cX8_colourOne 0 = .ok (.iconst 0, 1) := by decide +kernel
theorem dX8_colourOne_1 : decode cX8_colourOne 1 = .ok (.istore_n 2, 1) := by decide +kernel
theorem dX8_colourOne_2 : decode cX8_colourOne 2 = .ok (.iconst 1, 1) := by decide +kernel
theorem dX8_colourOne_3 : decode cX8_colourOne 3 = .ok (.istore_n 3, 1) := by decide +kernel
theorem dX8_colourOne_4 : decode cX8_colourOne 4 = .ok (.iload_n 3, 1) := by decide +kernel
theorem dX8_colourOne_5 : decode cX8_colourOne 5 = .ok (.ifCond .eq 74, 3) := by decide +kernel
theorem dX8_colourOne_8 : decode cX8_colourOne 8 = .ok (.iconst 0, 1) := by decide +kernel
theorem dX8_colourOne_9 : decode cX8_colourOne 9 = .ok (.istore_n 3, 1) := by decide +kernel
theorem dX8_colourOne_10 : decode cX8_colourOne 10 = .ok (.iconst 0, 1) := by decide +kernel
theorem dX8_colourOne_11 : decode cX8_colourOne 11 = .ok (.istore 4, 2) := by decide +kernel
theorem dX8_colourOne_13 : decode cX8_colourOne 13 = .ok (.iload 4, 2) := by decide +kernel
theorem dX8_colourOne_15 : decode cX8_colourOne 15 = .ok (.aload_n 0, 1) := by decide +kernel
theorem dX8_colourOne_16 : decode cX8_colourOne 16 = .ok (.getfield 92, 3) := by decide +kernel
theorem dX8_colourOne_19 : decode cX8_colourOne 19 = .ok (.if_icmp .ge 45, 3) := by decide +kernel
theorem dX8_colourOne_22 : decode cX8_colourOne 22 = .ok (.iload_n 3, 1) := by decide +kernel
theorem dX8_colourOne_23 : decode cX8_colourOne 23 = .ok (.ifCond .ne 41, 3) := by decide +kernel
theorem dX8_colourOne_26 : decode cX8_colourOne 26 = .ok (.aload_n 0, 1) := by decide +kernel
theorem dX8_colourOne_27 : decode cX8_colourOne 27 = .ok (.getfield 38, 3) := by decide +kernel
theorem dX8_colourOne_30 : decode cX8_colourOne 30 = .ok (.bipush 49, 2) := by decide +kernel
theorem dX8_colourOne_32 : decode cX8_colourOne 32 = .ok (.iload_n 1, 1) := by decide +kernel
theorem dX8_colourOne_33 : decode cX8_colourOne 33 = .ok (.imul, 1) := by decide +kernel
theorem dX8_colourOne_34 : decode cX8_colourOne 34 = .ok (.iload 4, 2) := by decide +kernel
theorem dX8_colourOne_36 : decode cX8_colourOne 36 = .ok (.iadd, 1) := by decide +kernel
theorem dX8_colourOne_37 : decode cX8_colourOne 37 = .ok (.baload, 1) := by decide +kernel
theorem dX8_colourOne_38 : decode cX8_colourOne 38 = .ok (.ifCond .eq 18, 3) := by decide +kernel
theorem dX8_colourOne_41 : decode cX8_colourOne 41 = .ok (.aload_n 0, 1) := by decide +kernel
theorem dX8_colourOne_42 : decode cX8_colourOne 42 = .ok (.getfield 62, 3) := by decide +kernel
theorem dX8_colourOne_45 : decode cX8_colourOne 45 = .ok (.iload 4, 2) := by decide +kernel
theorem dX8_colourOne_47 : decode cX8_colourOne 47 = .ok (.iaload, 1) := by decide +kernel
theorem dX8_colourOne_48 : decode cX8_colourOne 48 = .ok (.iload_n 2, 1) := by decide +kernel
theorem dX8_colourOne_49 : decode cX8_colourOne 49 = .ok (.if_icmp .ne 7, 3) := by decide +kernel
theorem dX8_colourOne_52 : decode cX8_colourOne 52 = .ok (.iconst 1, 1) := by decide +kernel
theorem dX8_colourOne_53 : decode cX8_colourOne 53 = .ok (.goto 4, 3) := by decide +kernel
theorem dX8_colourOne_56 : decode cX8_colourOne 56 = .ok (.iconst 0, 1) := by decide +kernel
theorem dX8_colourOne_57 : decode cX8_colourOne 57 = .ok (.istore_n 3, 1) := by decide +kernel
theorem dX8_colourOne_58 : decode cX8_colourOne 58 = .ok (.iinc 4 1, 3) := by decide +kernel
theorem dX8_colourOne_61 : decode cX8_colourOne 61 = .ok (.goto (-48), 3) := by decide +kernel
theorem dX8_colourOne_64 : decode cX8_colourOne 64 = .ok (.iload_n 2, 1) := by decide +kernel
theorem dX8_colourOne_65 : decode cX8_colourOne 65 = .ok (.iload_n 3, 1) := by decide +kernel
theorem dX8_colourOne_66 : decode cX8_colourOne 66 = .ok (.ifCond .eq 7, 3) := by decide +kernel
theorem dX8_colourOne_69 : decode cX8_colourOne 69 = .ok (.iconst 1, 1) := by decide +kernel
theorem dX8_colourOne_70 : decode cX8_colourOne 70 = .ok (.goto 4, 3) := by decide +kernel
theorem dX8_colourOne_73 : decode cX8_colourOne 73 = .ok (.iconst 0, 1) := by decide +kernel
theorem dX8_colourOne_74 : decode cX8_colourOne 74 = .ok (.iadd, 1) := by decide +kernel
theorem dX8_colourOne_75 : decode cX8_colourOne 75 = .ok (.istore_n 2, 1) := by decide +kernel
theorem dX8_colourOne_76 : decode cX8_colourOne 76 = .ok (.goto (-72), 3) := by decide +kernel
theorem dX8_colourOne_79 : decode cX8_colourOne 79 = .ok (.aload_n 0, 1) := by decide +kernel
theorem dX8_colourOne_80 : decode cX8_colourOne 80 = .ok (.getfield 62, 3) := by decide +kernel
theorem dX8_colourOne_83 : decode cX8_colourOne 83 = .ok (.iload_n 1, 1) := by decide +kernel
theorem dX8_colourOne_84 : decode cX8_colourOne 84 = .ok (.iload_n 2, 1) := by decide +kernel
theorem dX8_colourOne_85 : decode cX8_colourOne 85 = .ok (.iastore, 1) := by decide +kernel
theorem dX8_colourOne_86 : decode cX8_colourOne 86 = .ok (.return_, 1) := by decide +kernel
theorem dX8_colourAll_0 : decode cX8_colourAll 0 = .ok (.iconst 0, 1) := by decide +kernel
theorem dX8_colourAll_1 : decode cX8_colourAll 1 = .ok (.istore_n 2, 1) := by decide +kernel
theorem dX8_colourAll_2 : decode cX8_colourAll 2 = .ok (.iload_n 2, 1) := by decide +kernel
theorem dX8_colourAll_3 : decode cX8_colourAll 3 = .ok (.aload_n 0, 1) := by decide +kernel
theorem dX8_colourAll_4 : decode cX8_colourAll 4 = .ok (.getfield 92, 3) := by decide +kernel
theorem dX8_colourAll_7 : decode cX8_colourAll 7 = .ok (.if_icmp .ge 23, 3) := by decide +kernel
theorem dX8_colourAll_10 : decode cX8_colourAll 10 = .ok (.aload_n 0, 1) := by decide +kernel
theorem dX8_colourAll_11 : decode cX8_colourAll 11 = .ok (.getfield 59, 3) := by decide +kernel
theorem dX8_colourAll_14 : decode cX8_colourAll 14 = .ok (.iload_n 2, 1) := by decide +kernel
theorem dX8_colourAll_15 : decode cX8_colourAll 15 = .ok (.iconst 0, 1) := by decide +kernel
theorem dX8_colourAll_16 : decode cX8_colourAll 16 = .ok (.bastore, 1) := by decide +kernel
theorem dX8_colourAll_17 : decode cX8_colourAll 17 = .ok (.aload_n 0, 1) := by decide +kernel
theorem dX8_colourAll_18 : decode cX8_colourAll 18 = .ok (.getfield 62, 3) := by decide +kernel
theorem dX8_colourAll_21 : decode cX8_colourAll 21 = .ok (.iload_n 2, 1) := by decide +kernel
theorem dX8_colourAll_22 : decode cX8_colourAll 22 = .ok (.iconst (-1), 1) := by decide +kernel
theorem dX8_colourAll_23 : decode cX8_colourAll 23 = .ok (.iastore, 1) := by decide +kernel
theorem dX8_colourAll_24 : decode cX8_colourAll 24 = .ok (.iinc 2 1, 3) := by decide +kernel
theorem dX8_colourAll_27 : decode cX8_colourAll 27 = .ok (.goto (-25), 3) := by decide +kernel
theorem dX8_colourAll_30 : decode cX8_colourAll 30 = .ok (.iconst 0, 1) := by decide +kernel
theorem dX8_colourAll_31 : decode cX8_colourAll 31 = .ok (.istore_n 2, 1) := by decide +kernel
theorem dX8_colourAll_32 : decode cX8_colourAll 32 = .ok (.iload_n 2, 1) := by decide +kernel
theorem dX8_colourAll_33 : decode cX8_colourAll 33 = .ok (.aload_n 0, 1) := by decide +kernel
theorem dX8_colourAll_34 : decode cX8_colourAll 34 = .ok (.getfield 92, 3) := by decide +kernel
theorem dX8_colourAll_37 : decode cX8_colourAll 37 = .ok (.if_icmp .ge 50, 3) := by decide +kernel
theorem dX8_colourAll_40 : decode cX8_colourAll 40 = .ok (.iload_n 1, 1) := by decide +kernel
theorem dX8_colourAll_41 : decode cX8_colourAll 41 = .ok (.iconst 2, 1) := by decide +kernel
theorem dX8_colourAll_42 : decode cX8_colourAll 42 = .ok (.if_icmp .ne 14, 3) := by decide +kernel
theorem dX8_colourAll_45 : decode cX8_colourAll 45 = .ok (.aload_n 0, 1) := by decide +kernel
theorem dX8_colourAll_46 : decode cX8_colourAll 46 = .ok (.getfield 92, 3) := by decide +kernel
theorem dX8_colourAll_49 : decode cX8_colourAll 49 = .ok (.iconst 1, 1) := by decide +kernel
theorem dX8_colourAll_50 : decode cX8_colourAll 50 = .ok (.isub, 1) := by decide +kernel
theorem dX8_colourAll_51 : decode cX8_colourAll 51 = .ok (.iload_n 2, 1) := by decide +kernel
theorem dX8_colourAll_52 : decode cX8_colourAll 52 = .ok (.isub, 1) := by decide +kernel
theorem dX8_colourAll_53 : decode cX8_colourAll 53 = .ok (.goto 4, 3) := by decide +kernel
theorem dX8_colourAll_56 : decode cX8_colourAll 56 = .ok (.iload_n 2, 1) := by decide +kernel
theorem dX8_colourAll_57 : decode cX8_colourAll 57 = .ok (.istore_n 3, 1) := by decide +kernel
theorem dX8_colourAll_58 : decode cX8_colourAll 58 = .ok (.aload_n 0, 1) := by decide +kernel
theorem dX8_colourAll_59 : decode cX8_colourAll 59 = .ok (.getfield 56, 3) := by decide +kernel
theorem dX8_colourAll_62 : decode cX8_colourAll 62 = .ok (.iload_n 3, 1) := by decide +kernel
theorem dX8_colourAll_63 : decode cX8_colourAll 63 = .ok (.aload_n 0, 1) := by decide +kernel
theorem dX8_colourAll_64 : decode cX8_colourAll 64 = .ok (.iload_n 1, 1) := by decide +kernel
theorem dX8_colourAll_65 : decode cX8_colourAll 65 = .ok (.invokevirtual 205, 3) := by decide +kernel
theorem dX8_colourAll_68 : decode cX8_colourAll 68 = .ok (.iastore, 1) := by decide +kernel
theorem dX8_colourAll_69 : decode cX8_colourAll 69 = .ok (.aload_n 0, 1) := by decide +kernel
theorem dX8_colourAll_70 : decode cX8_colourAll 70 = .ok (.getfield 59, 3) := by decide +kernel
theorem dX8_colourAll_73 : decode cX8_colourAll 73 = .ok (.aload_n 0, 1) := by decide +kernel
theorem dX8_colourAll_74 : decode cX8_colourAll 74 = .ok (.getfield 56, 3) := by decide +kernel
theorem dX8_colourAll_77 : decode cX8_colourAll 77 = .ok (.iload_n 3, 1) := by decide +kernel
theorem dX8_colourAll_78 : decode cX8_colourAll 78 = .ok (.iaload, 1) := by decide +kernel
theorem dX8_colourAll_79 : decode cX8_colourAll 79 = .ok (.iconst 1, 1) := by decide +kernel
theorem dX8_colourAll_80 : decode cX8_colourAll 80 = .ok (.bastore, 1) := by decide +kernel
theorem dX8_colourAll_81 : decode cX8_colourAll 81 = .ok (.iinc 2 1, 3) := by decide +kernel
theorem dX8_colourAll_84 : decode cX8_colourAll 84 = .ok (.goto (-52), 3) := by decide +kernel
theorem dX8_colourAll_87 : decode cX8_colourAll 87 = .ok (.iconst 0, 1) := by decide +kernel
theorem dX8_colourAll_88 : decode cX8_colourAll 88 = .ok (.istore_n 2, 1) := by decide +kernel
theorem dX8_colourAll_89 : decode cX8_colourAll 89 = .ok (.iconst 0, 1) := by decide +kernel
theorem dX8_colourAll_90 : decode cX8_colourAll 90 = .ok (.istore_n 3, 1) := by decide +kernel
theorem dX8_colourAll_91 : decode cX8_colourAll 91 = .ok (.iload_n 3, 1) := by decide +kernel
theorem dX8_colourAll_92 : decode cX8_colourAll 92 = .ok (.aload_n 0, 1) := by decide +kernel
theorem dX8_colourAll_93 : decode cX8_colourAll 93 = .ok (.getfield 92, 3) := by decide +kernel
theorem dX8_colourAll_96 : decode cX8_colourAll 96 = .ok (.if_icmp .ge 50, 3) := by decide +kernel
theorem dX8_colourAll_99 : decode cX8_colourAll 99 = .ok (.aload_n 0, 1) := by decide +kernel
theorem dX8_colourAll_100 : decode cX8_colourAll 100 = .ok (.aload_n 0, 1) := by decide +kernel
theorem dX8_colourAll_101 : decode cX8_colourAll 101 = .ok (.getfield 56, 3) := by decide +kernel
theorem dX8_colourAll_104 : decode cX8_colourAll 104 = .ok (.iload_n 3, 1) := by decide +kernel
theorem dX8_colourAll_105 : decode cX8_colourAll 105 = .ok (.iaload, 1) := by decide +kernel
theorem dX8_colourAll_106 : decode cX8_colourAll 106 = .ok (.invokevirtual 208, 3) := by decide +kernel
theorem dX8_colourAll_109 : decode cX8_colourAll 109 = .ok (.aload_n 0, 1) := by decide +kernel
theorem dX8_colourAll_110 : decode cX8_colourAll 110 = .ok (.getfield 62, 3) := by decide +kernel
theorem dX8_colourAll_113 : decode cX8_colourAll 113 = .ok (.aload_n 0, 1) := by decide +kernel
theorem dX8_colourAll_114 : decode cX8_colourAll 114 = .ok (.getfield 56, 3) := by decide +kernel
theorem dX8_colourAll_117 : decode cX8_colourAll 117 = .ok (.iload_n 3, 1) := by decide +kernel
theorem dX8_colourAll_118 : decode cX8_colourAll 118 = .ok (.iaload, 1) := by decide +kernel
theorem dX8_colourAll_119 : decode cX8_colourAll 119 = .ok (.iaload, 1) := by decide +kernel
theorem dX8_colourAll_120 : decode cX8_colourAll 120 = .ok (.iload_n 2, 1) := by decide +kernel
theorem dX8_colourAll_121 : decode cX8_colourAll 121 = .ok (.if_icmp .le 17, 3) := by decide +kernel
theorem dX8_colourAll_124 : decode cX8_colourAll 124 = .ok (.aload_n 0, 1) := by decide +kernel
theorem dX8_colourAll_125 : decode cX8_colourAll 125 = .ok (.getfield 62, 3) := by decide +kernel
theorem dX8_colourAll_128 : decode cX8_colourAll 128 = .ok (.aload_n 0, 1) := by decide +kernel
theorem dX8_colourAll_129 : decode cX8_colourAll 129 = .ok (.getfield 56, 3) := by decide +kernel
theorem dX8_colourAll_132 : decode cX8_colourAll 132 = .ok (.iload_n 3, 1) := by decide +kernel
theorem dX8_colourAll_133 : decode cX8_colourAll 133 = .ok (.iaload, 1) := by decide +kernel
theorem dX8_colourAll_134 : decode cX8_colourAll 134 = .ok (.iaload, 1) := by decide +kernel
theorem dX8_colourAll_135 : decode cX8_colourAll 135 = .ok (.goto 4, 3) := by decide +kernel
theorem dX8_colourAll_138 : decode cX8_colourAll 138 = .ok (.iload_n 2, 1) := by decide +kernel
theorem dX8_colourAll_139 : decode cX8_colourAll 139 = .ok (.istore_n 2, 1) := by decide +kernel
theorem dX8_colourAll_140 : decode cX8_colourAll 140 = .ok (.iinc 3 1, 3) := by decide +kernel
theorem dX8_colourAll_143 : decode cX8_colourAll 143 = .ok (.goto (-52), 3) := by decide +kernel
theorem dX8_colourAll_146 : decode cX8_colourAll 146 = .ok (.iload_n 2, 1) := by decide +kernel
theorem dX8_colourAll_147 : decode cX8_colourAll 147 = .ok (.iconst 1, 1) := by decide +kernel
theorem dX8_colourAll_148 : decode cX8_colourAll 148 = .ok (.iadd, 1) := by decide +kernel
theorem dX8_colourAll_149 : decode cX8_colourAll 149 = .ok (.ireturn, 1) := by decide +kernel
theorem dX8_colourCount_0 : decode cX8_colourCount 0 = .ok (.iload_n 1, 1) := by decide +kernel
theorem dX8_colourCount_1 : decode cX8_colourCount 1 = .ok (.iconst 0, 1) := by decide +kernel
theorem dX8_colourCount_2 : decode cX8_colourCount 2 = .ok (.iconst 2, 1) := by decide +kernel
theorem dX8_colourCount_3 : decode cX8_colourCount 3 = .ok (.invokestatic 65, 3) := by decide +kernel
theorem dX8_colourCount_6 : decode cX8_colourCount 6 = .ok (.ifCond .ne 5, 3) := by decide +kernel
theorem dX8_colourCount_9 : decode cX8_colourCount 9 = .ok (.iconst (-1), 1) := by decide +kernel
theorem dX8_colourCount_10 : decode cX8_colourCount 10 = .ok (.ireturn, 1) := by decide +kernel
theorem dX8_colourCount_11 : decode cX8_colourCount 11 = .ok (.aload_n 0, 1) := by decide +kernel
theorem dX8_colourCount_12 : decode cX8_colourCount 12 = .ok (.invokevirtual 168, 3) := by decide +kernel
theorem dX8_colourCount_15 : decode cX8_colourCount 15 = .ok (.istore_n 2, 1) := by decide +kernel
theorem dX8_colourCount_16 : decode cX8_colourCount 16 = .ok (.aload_n 0, 1) := by decide +kernel
theorem dX8_colourCount_17 : decode cX8_colourCount 17 = .ok (.iload_n 1, 1) := by decide +kernel
theorem dX8_colourCount_18 : decode cX8_colourCount 18 = .ok (.invokevirtual 211, 3) := by decide +kernel
theorem dX8_colourCount_21 : decode cX8_colourCount 21 = .ok (.ireturn, 1) := by decide +kernel
theorem dX8_suggestedColour_0 : decode cX8_suggestedColour 0 = .ok (.iload_n 1, 1) := by decide +kernel
theorem dX8_suggestedColour_1 : decode cX8_suggestedColour 1 = .ok (.iconst 0, 1) := by decide +kernel
theorem dX8_suggestedColour_2 : decode cX8_suggestedColour 2 = .ok (.iconst 2, 1) := by decide +kernel
theorem dX8_suggestedColour_3 : decode cX8_suggestedColour 3 = .ok (.invokestatic 65, 3) := by decide +kernel
theorem dX8_suggestedColour_6 : decode cX8_suggestedColour 6 = .ok (.ifCond .eq 11, 3) := by decide +kernel
theorem dX8_suggestedColour_9 : decode cX8_suggestedColour 9 = .ok (.aload_n 0, 1) := by decide +kernel
theorem dX8_suggestedColour_10 : decode cX8_suggestedColour 10 = .ok (.iload_n 2, 1) := by decide +kernel
theorem dX8_suggestedColour_11 : decode cX8_suggestedColour 11 = .ok (.invokevirtual 156, 3) := by decide +kernel
theorem dX8_suggestedColour_14 : decode cX8_suggestedColour 14 = .ok (.ifCond .ne 5, 3) := by decide +kernel
theorem dX8_suggestedColour_17 : decode cX8_suggestedColour 17 = .ok (.iconst (-1), 1) := by decide +kernel
theorem dX8_suggestedColour_18 : decode cX8_suggestedColour 18 = .ok (.ireturn, 1) := by decide +kernel
theorem dX8_suggestedColour_19 : decode cX8_suggestedColour 19 = .ok (.aload_n 0, 1) := by decide +kernel
theorem dX8_suggestedColour_20 : decode cX8_suggestedColour 20 = .ok (.invokevirtual 168, 3) := by decide +kernel
theorem dX8_suggestedColour_23 : decode cX8_suggestedColour 23 = .ok (.istore_n 3, 1) := by decide +kernel
theorem dX8_suggestedColour_24 : decode cX8_suggestedColour 24 = .ok (.aload_n 0, 1) := by decide +kernel
theorem dX8_suggestedColour_25 : decode cX8_suggestedColour 25 = .ok (.iload_n 1, 1) := by decide +kernel
theorem dX8_suggestedColour_26 : decode cX8_suggestedColour 26 = .ok (.invokevirtual 211, 3) := by decide +kernel
theorem dX8_suggestedColour_29 : decode cX8_suggestedColour 29 = .ok (.istore 4, 2) := by decide +kernel
theorem dX8_suggestedColour_31 : decode cX8_suggestedColour 31 = .ok (.aload_n 0, 1) := by decide +kernel
theorem dX8_suggestedColour_32 : decode cX8_suggestedColour 32 = .ok (.getfield 62, 3) := by decide +kernel
theorem dX8_suggestedColour_35 : decode cX8_suggestedColour 35 = .ok (.iload_n 2, 1) := by decide +kernel
theorem dX8_suggestedColour_36 : decode cX8_suggestedColour 36 = .ok (.iaload, 1) := by decide +kernel
theorem dX8_suggestedColour_37 : decode cX8_suggestedColour 37 = .ok (.ireturn, 1) := by decide +kernel
theorem dX8_bestOrder_0 : decode cX8_bestOrder 0 = .ok (.aload_n 0, 1) := by decide +kernel
theorem dX8_bestOrder_1 : decode cX8_bestOrder 1 = .ok (.invokevirtual 168, 3) := by decide +kernel
theorem dX8_bestOrder_4 : decode cX8_bestOrder 4 = .ok (.istore_n 1, 1) := by decide +kernel
theorem dX8_bestOrder_5 : decode cX8_bestOrder 5 = .ok (.iconst 0, 1) := by decide +kernel
theorem dX8_bestOrder_6 : decode cX8_bestOrder 6 = .ok (.istore_n 2, 1) := by decide +kernel
theorem dX8_bestOrder_7 : decode cX8_bestOrder 7 = .ok (.aload_n 0, 1) := by decide +kernel
theorem dX8_bestOrder_8 : decode cX8_bestOrder 8 = .ok (.iconst 0, 1) := by decide +kernel
theorem dX8_bestOrder_9 : decode cX8_bestOrder 9 = .ok (.invokevirtual 211, 3) := by decide +kernel
theorem dX8_bestOrder_12 : decode cX8_bestOrder 12 = .ok (.istore_n 3, 1) := by decide +kernel
theorem dX8_bestOrder_13 : decode cX8_bestOrder 13 = .ok (.iconst 1, 1) := by decide +kernel
theorem dX8_bestOrder_14 : decode cX8_bestOrder 14 = .ok (.istore 4, 2) := by decide +kernel
theorem dX8_bestOrder_16 : decode cX8_bestOrder 16 = .ok (.iload 4, 2) := by decide +kernel
theorem dX8_bestOrder_18 : decode cX8_bestOrder 18 = .ok (.iconst 3, 1) := by decide +kernel
theorem dX8_bestOrder_19 : decode cX8_bestOrder 19 = .ok (.if_icmp .ge 29, 3) := by decide +kernel
theorem dX8_bestOrder_22 : decode cX8_bestOrder 22 = .ok (.aload_n 0, 1) := by decide +kernel
theorem dX8_bestOrder_23 : decode cX8_bestOrder 23 = .ok (.iload 4, 2) := by decide +kernel
theorem dX8_bestOrder_25 : decode cX8_bestOrder 25 = .ok (.invokevirtual 211, 3) := by decide +kernel
theorem dX8_bestOrder_28 : decode cX8_bestOrder 28 = .ok (.istore 5, 2) := by decide +kernel
theorem dX8_bestOrder_30 : decode cX8_bestOrder 30 = .ok (.iload 5, 2) := by decide +kernel
theorem dX8_bestOrder_32 : decode cX8_bestOrder 32 = .ok (.iload_n 3, 1) := by decide +kernel
theorem dX8_bestOrder_33 : decode cX8_bestOrder 33 = .ok (.if_icmp .ge 9, 3) := by decide +kernel
theorem dX8_bestOrder_36 : decode cX8_bestOrder 36 = .ok (.iload 4, 2) := by decide +kernel
theorem dX8_bestOrder_38 : decode cX8_bestOrder 38 = .ok (.istore_n 2, 1) := by decide +kernel
theorem dX8_bestOrder_39 : decode cX8_bestOrder 39 = .ok (.iload 5, 2) := by decide +kernel
theorem dX8_bestOrder_41 : decode cX8_bestOrder 41 = .ok (.istore_n 3, 1) := by decide +kernel
theorem dX8_bestOrder_42 : decode cX8_bestOrder 42 = .ok (.iinc 4 1, 3) := by decide +kernel
theorem dX8_bestOrder_45 : decode cX8_bestOrder 45 = .ok (.goto (-29), 3) := by decide +kernel
theorem dX8_bestOrder_48 : decode cX8_bestOrder 48 = .ok (.iload_n 2, 1) := by decide +kernel
theorem dX8_bestOrder_49 : decode cX8_bestOrder 49 = .ok (.ireturn, 1) := by decide +kernel
theorem dX8_areNear_0 : decode cX8_areNear 0 = .ok (.aload_n 0, 1) := by decide +kernel
theorem dX8_areNear_1 : decode cX8_areNear 1 = .ok (.getfield 38, 3) := by decide +kernel
theorem dX8_areNear_4 : decode cX8_areNear 4 = .ok (.bipush 49, 2) := by decide +kernel
theorem dX8_areNear_6 : decode cX8_areNear 6 = .ok (.iload_n 1, 1) := by decide +kernel
theorem dX8_areNear_7 : decode cX8_areNear 7 = .ok (.imul, 1) := by decide +kernel
theorem dX8_areNear_8 : decode cX8_areNear 8 = .ok (.iload_n 2, 1) := by decide +kernel
theorem dX8_areNear_9 : decode cX8_areNear 9 = .ok (.iadd, 1) := by decide +kernel
theorem dX8_areNear_10 : decode cX8_areNear 10 = .ok (.baload, 1) := by decide +kernel
theorem dX8_areNear_11 : decode cX8_areNear 11 = .ok (.ireturn, 1) := by decide +kernel
theorem dX8_largestClique_0 : decode cX8_largestClique 0 = .ok (.aload_n 0, 1) := by decide +kernel
theorem dX8_largestClique_1 : decode cX8_largestClique 1 = .ok (.invokevirtual 168, 3) := by decide +kernel
theorem dX8_largestClique_4 : decode cX8_largestClique 4 = .ok (.istore_n 1, 1) := by decide +kernel
theorem dX8_largestClique_5 : decode cX8_largestClique 5 = .ok (.iconst 1, 1) := by decide +kernel
theorem dX8_largestClique_6 : decode cX8_largestClique 6 = .ok (.istore_n 2, 1) := by decide +kernel
theorem dX8_largestClique_7 : decode cX8_largestClique 7 = .ok (.iconst 0, 1) := by decide +kernel
theorem dX8_largestClique_8 : decode cX8_largestClique 8 = .ok (.istore_n 3, 1) := by decide +kernel
theorem dX8_largestClique_9 : decode cX8_largestClique 9 = .ok (.iload_n 3, 1) := by decide +kernel
theorem dX8_largestClique_10 : decode cX8_largestClique 10 = .ok (.aload_n 0, 1) := by decide +kernel
theorem dX8_largestClique_11 : decode cX8_largestClique 11 = .ok (.getfield 92, 3) := by decide +kernel
theorem dX8_largestClique_14 : decode cX8_largestClique 14 = .ok (.if_icmp .ge 168, 3) := by decide +kernel
theorem dX8_largestClique_17 : decode cX8_largestClique 17 = .ok (.iload_n 3, 1) := by decide +kernel
theorem dX8_largestClique_18 : decode cX8_largestClique 18 = .ok (.iconst 1, 1) := by decide +kernel
theorem dX8_largestClique_19 : decode cX8_largestClique 19 = .ok (.iadd, 1) := by decide +kernel
theorem dX8_largestClique_20 : decode cX8_largestClique 20 = .ok (.istore 4, 2) := by decide +kernel
theorem dX8_largestClique_22 : decode cX8_largestClique 22 = .ok (.iload 4, 2) := by decide +kernel
theorem dX8_largestClique_24 : decode cX8_largestClique 24 = .ok (.aload_n 0, 1) := by decide +kernel
theorem dX8_largestClique_25 : decode cX8_largestClique 25 = .ok (.getfield 92, 3) := by decide +kernel
theorem dX8_largestClique_28 : decode cX8_largestClique 28 = .ok (.if_icmp .ge 148, 3) := by decide +kernel
theorem dX8_largestClique_31 : decode cX8_largestClique 31 = .ok (.aload_n 0, 1) := by decide +kernel
theorem dX8_largestClique_32 : decode cX8_largestClique 32 = .ok (.iload_n 3, 1) := by decide +kernel
theorem dX8_largestClique_33 : decode cX8_largestClique 33 = .ok (.iload 4, 2) := by decide +kernel
theorem dX8_largestClique_35 : decode cX8_largestClique 35 = .ok (.invokevirtual 214, 3) := by decide +kernel
theorem dX8_largestClique_38 : decode cX8_largestClique 38 = .ok (.ifCond .ne 6, 3) := by decide +kernel
theorem dX8_largestClique_41 : decode cX8_largestClique 41 = .ok (.goto 129, 3) := by decide +kernel
theorem dX8_largestClique_44 : decode cX8_largestClique 44 = .ok (.iload_n 2, 1) := by decide +kernel
theorem dX8_largestClique_45 : decode cX8_largestClique 45 = .ok (.iconst 2, 1) := by decide +kernel
theorem dX8_largestClique_46 : decode cX8_largestClique 46 = .ok (.if_icmp .ge 7, 3) := by decide +kernel
theorem dX8_largestClique_49 : decode cX8_largestClique 49 = .ok (.iconst 2, 1) := by decide +kernel
theorem dX8_largestClique_50 : decode cX8_largestClique 50 = .ok (.goto 4, 3) := by decide +kernel
theorem dX8_largestClique_53 : decode cX8_largestClique 53 = .ok (.iload_n 2, 1) := by decide +kernel
theorem dX8_largestClique_54 : decode cX8_largestClique 54 = .ok (.istore_n 2, 1) := by decide +kernel
theorem dX8_largestClique_55 : decode cX8_largestClique 55 = .ok (.iload 4, 2) := by decide +kernel
theorem dX8_largestClique_57 : decode cX8_largestClique 57 = .ok (.iconst 1, 1) := by decide +kernel
theorem dX8_largestClique_58 : decode cX8_largestClique 58 = .ok (.iadd, 1) := by decide +kernel
theorem dX8_largestClique_59 : decode cX8_largestClique 59 = .ok (.istore 5, 2) := by decide +kernel
theorem dX8_largestClique_61 : decode cX8_largestClique 61 = .ok (.iload 5, 2) := by decide +kernel
theorem dX8_largestClique_63 : decode cX8_largestClique 63 = .ok (.aload_n 0, 1) := by decide +kernel
theorem dX8_largestClique_64 : decode cX8_largestClique 64 = .ok (.getfield 92, 3) := by decide +kernel
theorem dX8_largestClique_67 : decode cX8_largestClique 67 = .ok (.if_icmp .ge 103, 3) := by decide +kernel
theorem dX8_largestClique_70 : decode cX8_largestClique 70 = .ok (.aload_n 0, 1) := by decide +kernel
theorem dX8_largestClique_71 : decode cX8_largestClique 71 = .ok (.iload_n 3, 1) := by decide +kernel
theorem dX8_largestClique_72 : decode cX8_largestClique 72 = .ok (.iload 5, 2) := by decide +kernel
theorem dX8_largestClique_74 : decode cX8_largestClique 74 = .ok (.invokevirtual 214, 3) := by decide +kernel
theorem dX8_largestClique_77 : decode cX8_largestClique 77 = .ok (.ifCond .eq 87, 3) := by decide +kernel
theorem dX8_largestClique_80 : decode cX8_largestClique 80 = .ok (.aload_n 0, 1) := by decide +kernel
theorem dX8_largestClique_81 : decode cX8_largestClique 81 = .ok (.iload 4, 2) := by decide +kernel
theorem dX8_largestClique_83 : decode cX8_largestClique 83 = .ok (.iload 5, 2) := by decide +kernel
theorem dX8_largestClique_85 : decode cX8_largestClique 85 = .ok (.invokevirtual 214, 3) := by decide +kernel
theorem dX8_largestClique_88 : decode cX8_largestClique 88 = .ok (.ifCond .ne 6, 3) := by decide +kernel
theorem dX8_largestClique_91 : decode cX8_largestClique 91 = .ok (.goto 73, 3) := by decide +kernel
theorem dX8_largestClique_94 : decode cX8_largestClique 94 = .ok (.iload_n 2, 1) := by decide +kernel
theorem dX8_largestClique_95 : decode cX8_largestClique 95 = .ok (.iconst 3, 1) := by decide +kernel
theorem dX8_largestClique_96 : decode cX8_largestClique 96 = .ok (.if_icmp .ge 7, 3) := by decide +kernel
theorem dX8_largestClique_99 : decode cX8_largestClique 99 = .ok (.iconst 3, 1) := by decide +kernel
theorem dX8_largestClique_100 : decode cX8_largestClique 100 = .ok (.goto 4, 3) := by decide +kernel
theorem dX8_largestClique_103 : decode cX8_largestClique 103 = .ok (.iload_n 2, 1) := by decide +kernel
theorem dX8_largestClique_104 : decode cX8_largestClique 104 = .ok (.istore_n 2, 1) := by decide +kernel
theorem dX8_largestClique_105 : decode cX8_largestClique 105 = .ok (.iload 5, 2) := by decide +kernel
theorem dX8_largestClique_107 : decode cX8_largestClique 107 = .ok (.iconst 1, 1) := by decide +kernel
theorem dX8_largestClique_108 : decode cX8_largestClique 108 = .ok (.iadd, 1) := by decide +kernel
theorem dX8_largestClique_109 : decode cX8_largestClique 109 = .ok (.istore 6, 2) := by decide +kernel
theorem dX8_largestClique_111 : decode cX8_largestClique 111 = .ok (.iload 6, 2) := by decide +kernel
theorem dX8_largestClique_113 : decode cX8_largestClique 113 = .ok (.aload_n 0, 1) := by decide +kernel
theorem dX8_largestClique_114 : decode cX8_largestClique 114 = .ok (.getfield 92, 3) := by decide +kernel
theorem dX8_largestClique_117 : decode cX8_largestClique 117 = .ok (.if_icmp .ge 47, 3) := by decide +kernel
theorem dX8_largestClique_120 : decode cX8_largestClique 120 = .ok (.aload_n 0, 1) := by decide +kernel
theorem dX8_largestClique_121 : decode cX8_largestClique 121 = .ok (.iload_n 3, 1) := by decide +kernel
theorem dX8_largestClique_122 : decode cX8_largestClique 122 = .ok (.iload 6, 2) := by decide +kernel
theorem dX8_largestClique_124 : decode cX8_largestClique 124 = .ok (.invokevirtual 214, 3) := by decide +kernel
theorem dX8_largestClique_127 : decode cX8_largestClique 127 = .ok (.ifCond .eq 29, 3) := by decide +kernel
theorem dX8_largestClique_130 : decode cX8_largestClique 130 = .ok (.aload_n 0, 1) := by decide +kernel
theorem dX8_largestClique_131 : decode cX8_largestClique 131 = .ok (.iload 4, 2) := by decide +kernel
theorem dX8_largestClique_133 : decode cX8_largestClique 133 = .ok (.iload 6, 2) := by decide +kernel
theorem dX8_largestClique_135 : decode cX8_largestClique 135 = .ok (.invokevirtual 214, 3) := by decide +kernel
theorem dX8_largestClique_138 : decode cX8_largestClique 138 = .ok (.ifCond .eq 18, 3) := by decide +kernel
theorem dX8_largestClique_141 : decode cX8_largestClique 141 = .ok (.aload_n 0, 1) := by decide +kernel
theorem dX8_largestClique_142 : decode cX8_largestClique 142 = .ok (.iload 5, 2) := by decide +kernel
theorem dX8_largestClique_144 : decode cX8_largestClique 144 = .ok (.iload 6, 2) := by decide +kernel
theorem dX8_largestClique_146 : decode cX8_largestClique 146 = .ok (.invokevirtual 214, 3) := by decide +kernel
theorem dX8_largestClique_149 : decode cX8_largestClique 149 = .ok (.ifCond .eq 7, 3) := by decide +kernel
theorem dX8_largestClique_152 : decode cX8_largestClique 152 = .ok (.iconst 4, 1) := by decide +kernel
theorem dX8_largestClique_153 : decode cX8_largestClique 153 = .ok (.goto 4, 3) := by decide +kernel
theorem dX8_largestClique_156 : decode cX8_largestClique 156 = .ok (.iload_n 2, 1) := by decide +kernel
theorem dX8_largestClique_157 : decode cX8_largestClique 157 = .ok (.istore_n 2, 1) := by decide +kernel
theorem dX8_largestClique_158 : decode cX8_largestClique 158 = .ok (.iinc 6 1, 3) := by decide +kernel
theorem dX8_largestClique_161 : decode cX8_largestClique 161 = .ok (.goto (-50), 3) := by decide +kernel
theorem dX8_largestClique_164 : decode cX8_largestClique 164 = .ok (.iinc 5 1, 3) := by decide +kernel
theorem dX8_largestClique_167 : decode cX8_largestClique 167 = .ok (.goto (-106), 3) := by decide +kernel
theorem dX8_largestClique_170 : decode cX8_largestClique 170 = .ok (.iinc 4 1, 3) := by decide +kernel
theorem dX8_largestClique_173 : decode cX8_largestClique 173 = .ok (.goto (-151), 3) := by decide +kernel
theorem dX8_largestClique_176 : decode cX8_largestClique 176 = .ok (.iinc 3 1, 3) := by decide +kernel
theorem dX8_largestClique_179 : decode cX8_largestClique 179 = .ok (.goto (-170), 3) := by decide +kernel
theorem dX8_largestClique_182 : decode cX8_largestClique 182 = .ok (.iload_n 2, 1) := by decide +kernel
theorem dX8_largestClique_183 : decode cX8_largestClique 183 = .ok (.ireturn, 1) := by decide +kernel
theorem dJ13_bitCount_95d88_0 : decode cJ13_bitCount_95d88 0 = .ok (.lload_n 0, 1) := by decide +kernel
theorem dJ13_bitCount_95d88_1 : decode cJ13_bitCount_95d88 1 = .ok (.lload_n 0, 1) := by decide +kernel
theorem dJ13_bitCount_95d88_2 : decode cJ13_bitCount_95d88 2 = .ok (.iconst 1, 1) := by decide +kernel
theorem dJ13_bitCount_95d88_3 : decode cJ13_bitCount_95d88 3 = .ok (.lushr, 1) := by decide +kernel
theorem dJ13_bitCount_95d88_4 : decode cJ13_bitCount_95d88 4 = .ok (.ldc2_w 314, 3) := by decide +kernel
theorem dJ13_bitCount_95d88_7 : decode cJ13_bitCount_95d88 7 = .ok (.land, 1) := by decide +kernel
theorem dJ13_bitCount_95d88_8 : decode cJ13_bitCount_95d88 8 = .ok (.lsub, 1) := by decide +kernel
theorem dJ13_bitCount_95d88_9 : decode cJ13_bitCount_95d88 9 = .ok (.lstore_n 0, 1) := by decide +kernel
theorem dJ13_bitCount_95d88_10 : decode cJ13_bitCount_95d88 10 = .ok (.lload_n 0, 1) := by decide +kernel
theorem dJ13_bitCount_95d88_11 : decode cJ13_bitCount_95d88 11 = .ok (.ldc2_w 316, 3) := by decide +kernel
theorem dJ13_bitCount_95d88_14 : decode cJ13_bitCount_95d88 14 = .ok (.land, 1) := by decide +kernel
theorem dJ13_bitCount_95d88_15 : decode cJ13_bitCount_95d88 15 = .ok (.lload_n 0, 1) := by decide +kernel
theorem dJ13_bitCount_95d88_16 : decode cJ13_bitCount_95d88 16 = .ok (.iconst 2, 1) := by decide +kernel
theorem dJ13_bitCount_95d88_17 : decode cJ13_bitCount_95d88 17 = .ok (.lushr, 1) := by decide +kernel
theorem dJ13_bitCount_95d88_18 : decode cJ13_bitCount_95d88 18 = .ok (.ldc2_w 316, 3) := by decide +kernel
theorem dJ13_bitCount_95d88_21 : decode cJ13_bitCount_95d88 21 = .ok (.land, 1) := by decide +kernel
theorem dJ13_bitCount_95d88_22 : decode cJ13_bitCount_95d88 22 = .ok (.ladd, 1) := by decide +kernel
theorem dJ13_bitCount_95d88_23 : decode cJ13_bitCount_95d88 23 = .ok (.lstore_n 0, 1) := by decide +kernel
theorem dJ13_bitCount_95d88_24 : decode cJ13_bitCount_95d88 24 = .ok (.lload_n 0, 1) := by decide +kernel
theorem dJ13_bitCount_95d88_25 : decode cJ13_bitCount_95d88 25 = .ok (.lload_n 0, 1) := by decide +kernel
theorem dJ13_bitCount_95d88_26 : decode cJ13_bitCount_95d88 26 = .ok (.iconst 4, 1) := by decide +kernel
theorem dJ13_bitCount_95d88_27 : decode cJ13_bitCount_95d88 27 = .ok (.lushr, 1) := by decide +kernel
theorem dJ13_bitCount_95d88_28 : decode cJ13_bitCount_95d88 28 = .ok (.ladd, 1) := by decide +kernel
theorem dJ13_bitCount_95d88_29 : decode cJ13_bitCount_95d88 29 = .ok (.ldc2_w 318, 3) := by decide +kernel
theorem dJ13_bitCount_95d88_32 : decode cJ13_bitCount_95d88 32 = .ok (.land, 1) := by decide +kernel
theorem dJ13_bitCount_95d88_33 : decode cJ13_bitCount_95d88 33 = .ok (.lstore_n 0, 1) := by decide +kernel
theorem dJ13_bitCount_95d88_34 : decode cJ13_bitCount_95d88 34 = .ok (.lload_n 0, 1) := by decide +kernel
theorem dJ13_bitCount_95d88_35 : decode cJ13_bitCount_95d88 35 = .ok (.lload_n 0, 1) := by decide +kernel
theorem dJ13_bitCount_95d88_36 : decode cJ13_bitCount_95d88 36 = .ok (.bipush 8, 2) := by decide +kernel
theorem dJ13_bitCount_95d88_38 : decode cJ13_bitCount_95d88 38 = .ok (.lushr, 1) := by decide +kernel
theorem dJ13_bitCount_95d88_39 : decode cJ13_bitCount_95d88 39 = .ok (.ladd, 1) := by decide +kernel
theorem dJ13_bitCount_95d88_40 : decode cJ13_bitCount_95d88 40 = .ok (.lstore_n 0, 1) := by decide +kernel
theorem dJ13_bitCount_95d88_41 : decode cJ13_bitCount_95d88 41 = .ok (.lload_n 0, 1) := by decide +kernel
theorem dJ13_bitCount_95d88_42 : decode cJ13_bitCount_95d88 42 = .ok (.lload_n 0, 1) := by decide +kernel
theorem dJ13_bitCount_95d88_43 : decode cJ13_bitCount_95d88 43 = .ok (.bipush 16, 2) := by decide +kernel
theorem dJ13_bitCount_95d88_45 : decode cJ13_bitCount_95d88 45 = .ok (.lushr, 1) := by decide +kernel
theorem dJ13_bitCount_95d88_46 : decode cJ13_bitCount_95d88 46 = .ok (.ladd, 1) := by decide +kernel
theorem dJ13_bitCount_95d88_47 : decode cJ13_bitCount_95d88 47 = .ok (.lstore_n 0, 1) := by decide +kernel
theorem dJ13_bitCount_95d88_48 : decode cJ13_bitCount_95d88 48 = .ok (.lload_n 0, 1) := by decide +kernel
theorem dJ13_bitCount_95d88_49 : decode cJ13_bitCount_95d88 49 = .ok (.lload_n 0, 1) := by decide +kernel
theorem dJ13_bitCount_95d88_50 : decode cJ13_bitCount_95d88 50 = .ok (.bipush 32, 2) := by decide +kernel
theorem dJ13_bitCount_95d88_52 : decode cJ13_bitCount_95d88 52 = .ok (.lushr, 1) := by decide +kernel
theorem dJ13_bitCount_95d88_53 : decode cJ13_bitCount_95d88 53 = .ok (.ladd, 1) := by decide +kernel
theorem dJ13_bitCount_95d88_54 : decode cJ13_bitCount_95d88 54 = .ok (.lstore_n 0, 1) := by decide +kernel
theorem dJ13_bitCount_95d88_55 : decode cJ13_bitCount_95d88 55 = .ok (.lload_n 0, 1) := by decide +kernel
theorem dJ13_bitCount_95d88_56 : decode cJ13_bitCount_95d88 56 = .ok (.l2i, 1) := by decide +kernel
theorem dJ13_bitCount_95d88_57 : decode cJ13_bitCount_95d88 57 = .ok (.bipush 127, 2) := by decide +kernel
theorem dJ13_bitCount_95d88_59 : decode cJ13_bitCount_95d88 59 = .ok (.iand, 1) := by decide +kernel
theorem dJ13_bitCount_95d88_60 : decode cJ13_bitCount_95d88 60 = .ok (.ireturn, 1) := by decide +kernel
theorem dJ9_max_7cf53_0 : decode cJ9_max_7cf53 0 = .ok (.iload_n 0, 1) := by decide +kernel
theorem dJ9_max_7cf53_1 : decode cJ9_max_7cf53 1 = .ok (.iload_n 1, 1) := by decide +kernel
theorem dJ9_max_7cf53_2 : decode cJ9_max_7cf53 2 = .ok (.if_icmp .lt 7, 3) := by decide +kernel
theorem dJ9_max_7cf53_5 : decode cJ9_max_7cf53 5 = .ok (.iload_n 0, 1) := by decide +kernel
theorem dJ9_max_7cf53_6 : decode cJ9_max_7cf53 6 = .ok (.goto 4, 3) := by decide +kernel
theorem dJ9_max_7cf53_9 : decode cJ9_max_7cf53 9 = .ok (.iload_n 1, 1) := by decide +kernel
theorem dJ9_max_7cf53_10 : decode cJ9_max_7cf53 10 = .ok (.ireturn, 1) := by decide +kernel
theorem dJ9_min_7cf53_0 : decode cJ9_min_7cf53 0 = .ok (.iload_n 0, 1) := by decide +kernel
theorem dJ9_min_7cf53_1 : decode cJ9_min_7cf53 1 = .ok (.iload_n 1, 1) := by decide +kernel
theorem dJ9_min_7cf53_2 : decode cJ9_min_7cf53 2 = .ok (.if_icmp .gt 7, 3) := by decide +kernel
theorem dJ9_min_7cf53_5 : decode cJ9_min_7cf53 5 = .ok (.iload_n 0, 1) := by decide +kernel
theorem dJ9_min_7cf53_6 : decode cJ9_min_7cf53 6 = .ok (.goto 4, 3) := by decide +kernel
theorem dJ9_min_7cf53_9 : decode cJ9_min_7cf53 9 = .ok (.iload_n 1, 1) := by decide +kernel
theorem dJ9_min_7cf53_10 : decode cJ9_min_7cf53 10 = .ok (.ireturn, 1) := by decide +kernel
theorem dL_law_0 : decode cL_law 0 = .ok (.new 7, 3) := by decide +kernel
theorem dL_law_3 : decode cL_law 3 = .ok (.dup, 1) := by decide +kernel
theorem dL_law_4 : decode cL_law 4 = .ok (.invokespecial 9, 3) := by decide +kernel
theorem dL_law_7 : decode cL_law 7 = .ok (.astore_n 1, 1) := by decide +kernel
theorem dL_law_8 : decode cL_law 8 = .ok (.new 10, 3) := by decide +kernel
theorem dL_law_11 : decode cL_law 11 = .ok (.dup, 1) := by decide +kernel
theorem dL_law_12 : decode cL_law 12 = .ok (.invokespecial 12, 3) := by decide +kernel
theorem dL_law_15 : decode cL_law 15 = .ok (.astore_n 2, 1) := by decide +kernel
theorem dL_law_16 : decode cL_law 16 = .ok (.iconst 0, 1) := by decide +kernel
theorem dL_law_17 : decode cL_law 17 = .ok (.istore_n 3, 1) := by decide +kernel
theorem dL_law_18 : decode cL_law 18 = .ok (.iload_n 3, 1) := by decide +kernel
theorem dL_law_19 : decode cL_law 19 = .ok (.aload_n 0, 1) := by decide +kernel
theorem dL_law_20 : decode cL_law 20 = .ok (.arraylength, 1) := by decide +kernel
theorem dL_law_21 : decode cL_law 21 = .ok (.iconst 4, 1) := by decide +kernel
theorem dL_law_22 : decode cL_law 22 = .ok (.isub, 1) := by decide +kernel
theorem dL_law_23 : decode cL_law 23 = .ok (.if_icmp .gt 828, 3) := by decide +kernel
theorem dL_law_26 : decode cL_law 26 = .ok (.aload_n 0, 1) := by decide +kernel
theorem dL_law_27 : decode cL_law 27 = .ok (.iload_n 3, 1) := by decide +kernel
theorem dL_law_28 : decode cL_law 28 = .ok (.iaload, 1) := by decide +kernel
theorem dL_law_29 : decode cL_law 29 = .ok (.bipush 31, 2) := by decide +kernel
theorem dL_law_31 : decode cL_law 31 = .ok (.iand, 1) := by decide +kernel
theorem dL_law_32 : decode cL_law 32 = .ok (.tableswitch 813 0 30 #[140, 163, 176, 189, 232, 245, 258, 291, 334, 377, 390, 403, 416, 449, 472, 495, 518, 541, 554, 577, 590, 613, 636, 659, 682, 705, 718, 741, 774, 787, 800], 140) := by decide +kernel
theorem dL_law_172 : decode cL_law 172 = .ok (.aload_n 1, 1) := by decide +kernel
theorem dL_law_173 : decode cL_law 173 = .ok (.aload_n 0, 1) := by decide +kernel
theorem dL_law_174 : decode cL_law 174 = .ok (.iload_n 3, 1) := by decide +kernel
theorem dL_law_175 : decode cL_law 175 = .ok (.iconst 1, 1) := by decide +kernel
theorem dL_law_176 : decode cL_law 176 = .ok (.iadd, 1) := by decide +kernel
theorem dL_law_177 : decode cL_law 177 = .ok (.iaload, 1) := by decide +kernel
theorem dL_law_178 : decode cL_law 178 = .ok (.invokevirtual 13, 3) := by decide +kernel
theorem dL_law_181 : decode cL_law 181 = .ok (.aload_n 2, 1) := by decide +kernel
theorem dL_law_182 : decode cL_law 182 = .ok (.aload_n 0, 1) := by decide +kernel
theorem dL_law_183 : decode cL_law 183 = .ok (.iload_n 3, 1) := by decide +kernel
theorem dL_law_184 : decode cL_law 184 = .ok (.iconst 1, 1) := by decide +kernel
theorem dL_law_185 : decode cL_law 185 = .ok (.iadd, 1) := by decide +kernel
theorem dL_law_186 : decode cL_law 186 = .ok (.iaload, 1) := by decide +kernel
theorem dL_law_187 : decode cL_law 187 = .ok (.invokevirtual 17, 3) := by decide +kernel
theorem dL_law_190 : decode cL_law 190 = .ok (.if_icmp .eq 655, 3) := by decide +kernel
theorem dL_law_193 : decode cL_law 193 = .ok (.iconst 0, 1) := by decide +kernel
theorem dL_law_194 : decode cL_law 194 = .ok (.ireturn, 1) := by decide +kernel
theorem dL_law_195 : decode cL_law 195 = .ok (.aload_n 1, 1) := by decide +kernel
theorem dL_law_196 : decode cL_law 196 = .ok (.invokevirtual 18, 3) := by decide +kernel
theorem dL_law_199 : decode cL_law 199 = .ok (.aload_n 2, 1) := by decide +kernel
theorem dL_law_200 : decode cL_law 200 = .ok (.invokevirtual 22, 3) := by decide +kernel
theorem dL_law_203 : decode cL_law 203 = .ok (.if_icmp .eq 642, 3) := by decide +kernel
theorem dL_law_206 : decode cL_law 206 = .ok (.iconst 0, 1) := by decide +kernel
theorem dL_law_207 : decode cL_law 207 = .ok (.ireturn, 1) := by decide +kernel
theorem dL_law_208 : decode cL_law 208 = .ok (.aload_n 1, 1) := by decide +kernel
theorem dL_law_209 : decode cL_law 209 = .ok (.invokevirtual 23, 3) := by decide +kernel
theorem dL_law_212 : decode cL_law 212 = .ok (.aload_n 2, 1) := by decide +kernel
theorem dL_law_213 : decode cL_law 213 = .ok (.invokevirtual 26, 3) := by decide +kernel
theorem dL_law_216 : decode cL_law 216 = .ok (.if_icmp .eq 629, 3) := by decide +kernel
theorem dL_law_219 : decode cL_law 219 = .ok (.iconst 0, 1) := by decide +kernel
theorem dL_law_220 : decode cL_law 220 = .ok (.ireturn, 1) := by decide +kernel
theorem dL_law_221 : decode cL_law 221 = .ok (.aload_n 1, 1) := by decide +kernel
theorem dL_law_222 : decode cL_law 222 = .ok (.aload_n 0, 1) := by decide +kernel
theorem dL_law_223 : decode cL_law 223 = .ok (.iload_n 3, 1) := by decide +kernel
theorem dL_law_224 : decode cL_law 224 = .ok (.iconst 1, 1) := by decide +kernel
theorem dL_law_225 : decode cL_law 225 = .ok (.iadd, 1) := by decide +kernel
theorem dL_law_226 : decode cL_law 226 = .ok (.iaload, 1) := by decide +kernel
theorem dL_law_227 : decode cL_law 227 = .ok (.aload_n 0, 1) := by decide +kernel
theorem dL_law_228 : decode cL_law 228 = .ok (.iload_n 3, 1) := by decide +kernel
theorem dL_law_229 : decode cL_law 229 = .ok (.iconst 2, 1) := by decide +kernel
theorem dL_law_230 : decode cL_law 230 = .ok (.iadd, 1) := by decide +kernel
theorem dL_law_231 : decode cL_law 231 = .ok (.iaload, 1) := by decide +kernel
theorem dL_law_232 : decode cL_law 232 = .ok (.aload_n 0, 1) := by decide +kernel
theorem dL_law_233 : decode cL_law 233 = .ok (.iload_n 3, 1) := by decide +kernel
theorem dL_law_234 : decode cL_law 234 = .ok (.iconst 3, 1) := by decide +kernel
theorem dL_law_235 : decode cL_law 235 = .ok (.iadd, 1) := by decide +kernel
theorem dL_law_236 : decode cL_law 236 = .ok (.iaload, 1) := by decide +kernel
theorem dL_law_237 : decode cL_law 237 = .ok (.invokevirtual 27, 3) := by decide +kernel
theorem dL_law_240 : decode cL_law 240 = .ok (.aload_n 2, 1) := by decide +kernel
theorem dL_law_241 : decode cL_law 241 = .ok (.aload_n 0, 1) := by decide +kernel
theorem dL_law_242 : decode cL_law 242 = .ok (.iload_n 3, 1) := by decide +kernel
theorem dL_law_243 : decode cL_law 243 = .ok (.iconst 1, 1) := by decide +kernel
theorem dL_law_244 : decode cL_law 244 = .ok (.iadd, 1) := by decide +kernel
theorem dL_law_245 : decode cL_law 245 = .ok (.iaload, 1) := by decide +kernel
theorem dL_law_246 : decode cL_law 246 = .ok (.aload_n 0, 1) := by decide +kernel
theorem dL_law_247 : decode cL_law 247 = .ok (.iload_n 3, 1) := by decide +kernel
theorem dL_law_248 : decode cL_law 248 = .ok (.iconst 2, 1) := by decide +kernel
theorem dL_law_249 : decode cL_law 249 = .ok (.iadd, 1) := by decide +kernel
theorem dL_law_250 : decode cL_law 250 = .ok (.iaload, 1) := by decide +kernel
theorem dL_law_251 : decode cL_law 251 = .ok (.aload_n 0, 1) := by decide +kernel
theorem dL_law_252 : decode cL_law 252 = .ok (.iload_n 3, 1) := by decide +kernel
theorem dL_law_253 : decode cL_law 253 = .ok (.iconst 3, 1) := by decide +kernel
theorem dL_law_254 : decode cL_law 254 = .ok (.iadd, 1) := by decide +kernel
theorem dL_law_255 : decode cL_law 255 = .ok (.iaload, 1) := by decide +kernel
theorem dL_law_256 : decode cL_law 256 = .ok (.invokevirtual 31, 3) := by decide +kernel
theorem dL_law_259 : decode cL_law 259 = .ok (.if_icmp .eq 586, 3) := by decide +kernel
theorem dL_law_262 : decode cL_law 262 = .ok (.iconst 0, 1) := by decide +kernel
theorem dL_law_263 : decode cL_law 263 = .ok (.ireturn, 1) := by decide +kernel
theorem dL_law_264 : decode cL_law 264 = .ok (.aload_n 1, 1) := by decide +kernel
theorem dL_law_265 : decode cL_law 265 = .ok (.invokevirtual 32, 3) := by decide +kernel
theorem dL_law_268 : decode cL_law 268 = .ok (.aload_n 2, 1) := by decide +kernel
theorem dL_law_269 : decode cL_law 269 = .ok (.invokevirtual 35, 3) := by decide +kernel
theorem dL_law_272 : decode cL_law 272 = .ok (.if_icmp .eq 573, 3) := by decide +kernel
theorem dL_law_275 : decode cL_law 275 = .ok (.iconst 0, 1) := by decide +kernel
theorem dL_law_276 : decode cL_law 276 = .ok (.ireturn, 1) := by decide +kernel
theorem dL_law_277 : decode cL_law 277 = .ok (.aload_n 1, 1) := by decide +kernel
theorem dL_law_278 : decode cL_law 278 = .ok (.invokevirtual 36, 3) := by decide +kernel
theorem dL_law_281 : decode cL_law 281 = .ok (.aload_n 2, 1) := by decide +kernel
theorem dL_law_282 : decode cL_law 282 = .ok (.invokevirtual 39, 3) := by decide +kernel
theorem dL_law_285 : decode cL_law 285 = .ok (.if_icmp .eq 560, 3) := by decide +kernel
theorem dL_law_288 : decode cL_law 288 = .ok (.iconst 0, 1) := by decide +kernel
theorem dL_law_289 : decode cL_law 289 = .ok (.ireturn, 1) := by decide +kernel
theorem dL_law_290 : decode cL_law 290 = .ok (.aload_n 1, 1) := by decide +kernel
theorem dL_law_291 : decode cL_law 291 = .ok (.aload_n 0, 1) := by decide +kernel
theorem dL_law_292 : decode cL_law 292 = .ok (.iload_n 3, 1) := by decide +kernel
theorem dL_law_293 : decode cL_law 293 = .ok (.iconst 1, 1) := by decide +kernel
theorem dL_law_294 : decode cL_law 294 = .ok (.iadd, 1) := by decide +kernel
theorem dL_law_295 : decode cL_law 295 = .ok (.iaload, 1) := by decide +kernel
theorem dL_law_296 : decode cL_law 296 = .ok (.aload_n 0, 1) := by decide +kernel
theorem dL_law_297 : decode cL_law 297 = .ok (.iload_n 3, 1) := by decide +kernel
theorem dL_law_298 : decode cL_law 298 = .ok (.iconst 2, 1) := by decide +kernel
theorem dL_law_299 : decode cL_law 299 = .ok (.iadd, 1) := by decide +kernel
theorem dL_law_300 : decode cL_law 300 = .ok (.iaload, 1) := by decide +kernel
theorem dL_law_301 : decode cL_law 301 = .ok (.invokevirtual 40, 3) := by decide +kernel
theorem dL_law_304 : decode cL_law 304 = .ok (.aload_n 2, 1) := by decide +kernel
theorem dL_law_305 : decode cL_law 305 = .ok (.aload_n 0, 1) := by decide +kernel
theorem dL_law_306 : decode cL_law 306 = .ok (.iload_n 3, 1) := by decide +kernel
theorem dL_law_307 : decode cL_law 307 = .ok (.iconst 1, 1) := by decide +kernel
theorem dL_law_308 : decode cL_law 308 = .ok (.iadd, 1) := by decide +kernel
theorem dL_law_309 : decode cL_law 309 = .ok (.iaload, 1) := by decide +kernel
theorem dL_law_310 : decode cL_law 310 = .ok (.aload_n 0, 1) := by decide +kernel
theorem dL_law_311 : decode cL_law 311 = .ok (.iload_n 3, 1) := by decide +kernel
theorem dL_law_312 : decode cL_law 312 = .ok (.iconst 2, 1) := by decide +kernel
theorem dL_law_313 : decode cL_law 313 = .ok (.iadd, 1) := by decide +kernel
theorem dL_law_314 : decode cL_law 314 = .ok (.iaload, 1) := by decide +kernel
theorem dL_law_315 : decode cL_law 315 = .ok (.invokevirtual 44, 3) := by decide +kernel
theorem dL_law_318 : decode cL_law 318 = .ok (.if_icmp .eq 527, 3) := by decide +kernel
theorem dL_law_321 : decode cL_law 321 = .ok (.iconst 0, 1) := by decide +kernel
theorem dL_law_322 : decode cL_law 322 = .ok (.ireturn, 1) := by decide +kernel
theorem dL_law_323 : decode cL_law 323 = .ok (.aload_n 1, 1) := by decide +kernel
theorem dL_law_324 : decode cL_law 324 = .ok (.aload_n 0, 1) := by decide +kernel
theorem dL_law_325 : decode cL_law 325 = .ok (.iload_n 3, 1) := by decide +kernel
theorem dL_law_326 : decode cL_law 326 = .ok (.iconst 1, 1) := by decide +kernel
theorem dL_law_327 : decode cL_law 327 = .ok (.iadd, 1) := by decide +kernel
theorem dL_law_328 : decode cL_law 328 = .ok (.iaload, 1) := by decide +kernel
theorem dL_law_329 : decode cL_law 329 = .ok (.aload_n 0, 1) := by decide +kernel
theorem dL_law_330 : decode cL_law 330 = .ok (.iload_n 3, 1) := by decide +kernel
theorem dL_law_331 : decode cL_law 331 = .ok (.iconst 2, 1) := by decide +kernel
theorem dL_law_332 : decode cL_law 332 = .ok (.iadd, 1) := by decide +kernel
theorem dL_law_333 : decode cL_law 333 = .ok (.iaload, 1) := by decide +kernel
theorem dL_law_334 : decode cL_law 334 = .ok (.aload_n 0, 1) := by decide +kernel
theorem dL_law_335 : decode cL_law 335 = .ok (.iload_n 3, 1) := by decide +kernel
theorem dL_law_336 : decode cL_law 336 = .ok (.iconst 3, 1) := by decide +kernel
theorem dL_law_337 : decode cL_law 337 = .ok (.iadd, 1) := by decide +kernel
theorem dL_law_338 : decode cL_law 338 = .ok (.iaload, 1) := by decide +kernel
theorem dL_law_339 : decode cL_law 339 = .ok (.invokevirtual 45, 3) := by decide +kernel
theorem dL_law_342 : decode cL_law 342 = .ok (.aload_n 2, 1) := by decide +kernel
theorem dL_law_343 : decode cL_law 343 = .ok (.aload_n 0, 1) := by decide +kernel
theorem dL_law_344 : decode cL_law 344 = .ok (.iload_n 3, 1) := by decide +kernel
theorem dL_law_345 : decode cL_law 345 = .ok (.iconst 1, 1) := by decide +kernel
theorem dL_law_346 : decode cL_law 346 = .ok (.iadd, 1) := by decide +kernel
theorem dL_law_347 : decode cL_law 347 = .ok (.iaload, 1) := by decide +kernel
theorem dL_law_348 : decode cL_law 348 = .ok (.aload_n 0, 1) := by decide +kernel
theorem dL_law_349 : decode cL_law 349 = .ok (.iload_n 3, 1) := by decide +kernel
theorem dL_law_350 : decode cL_law 350 = .ok (.iconst 2, 1) := by decide +kernel
theorem dL_law_351 : decode cL_law 351 = .ok (.iadd, 1) := by decide +kernel
theorem dL_law_352 : decode cL_law 352 = .ok (.iaload, 1) := by decide +kernel
theorem dL_law_353 : decode cL_law 353 = .ok (.aload_n 0, 1) := by decide +kernel
theorem dL_law_354 : decode cL_law 354 = .ok (.iload_n 3, 1) := by decide +kernel
theorem dL_law_355 : decode cL_law 355 = .ok (.iconst 3, 1) := by decide +kernel
theorem dL_law_356 : decode cL_law 356 = .ok (.iadd, 1) := by decide +kernel
theorem dL_law_357 : decode cL_law 357 = .ok (.iaload, 1) := by decide +kernel
theorem dL_law_358 : decode cL_law 358 = .ok (.invokevirtual 48, 3) := by decide +kernel
theorem dL_law_361 : decode cL_law 361 = .ok (.if_icmp .eq 484, 3) := by decide +kernel
theorem dL_law_364 : decode cL_law 364 = .ok (.iconst 0, 1) := by decide +kernel
theorem dL_law_365 : decode cL_law 365 = .ok (.ireturn, 1) := by decide +kernel
theorem dL_law_366 : decode cL_law 366 = .ok (.aload_n 1, 1) := by decide +kernel
theorem dL_law_367 : decode cL_law 367 = .ok (.aload_n 0, 1) := by decide +kernel
theorem dL_law_368 : decode cL_law 368 = .ok (.iload_n 3, 1) := by decide +kernel
theorem dL_law_369 : decode cL_law 369 = .ok (.iconst 1, 1) := by decide +kernel
theorem dL_law_370 : decode cL_law 370 = .ok (.iadd, 1) := by decide +kernel
theorem dL_law_371 : decode cL_law 371 = .ok (.iaload, 1) := by decide +kernel
theorem dL_law_372 : decode cL_law 372 = .ok (.aload_n 0, 1) := by decide +kernel
theorem dL_law_373 : decode cL_law 373 = .ok (.iload_n 3, 1) := by decide +kernel
theorem dL_law_374 : decode cL_law 374 = .ok (.iconst 2, 1) := by decide +kernel
theorem dL_law_375 : decode cL_law 375 = .ok (.iadd, 1) := by decide +kernel
theorem dL_law_376 : decode cL_law 376 = .ok (.iaload, 1) := by decide +kernel
theorem dL_law_377 : decode cL_law 377 = .ok (.aload_n 0, 1) := by decide +kernel
theorem dL_law_378 : decode cL_law 378 = .ok (.iload_n 3, 1) := by decide +kernel
theorem dL_law_379 : decode cL_law 379 = .ok (.iconst 3, 1) := by decide +kernel
theorem dL_law_380 : decode cL_law 380 = .ok (.iadd, 1) := by decide +kernel
theorem dL_law_381 : decode cL_law 381 = .ok (.iaload, 1) := by decide +kernel
theorem dL_law_382 : decode cL_law 382 = .ok (.invokevirtual 49, 3) := by decide +kernel
theorem dL_law_385 : decode cL_law 385 = .ok (.aload_n 2, 1) := by decide +kernel
theorem dL_law_386 : decode cL_law 386 = .ok (.aload_n 0, 1) := by decide +kernel
theorem dL_law_387 : decode cL_law 387 = .ok (.iload_n 3, 1) := by decide +kernel
theorem dL_law_388 : decode cL_law 388 = .ok (.iconst 1, 1) := by decide +kernel
theorem dL_law_389 : decode cL_law 389 = .ok (.iadd, 1) := by decide +kernel
theorem dL_law_390 : decode cL_law 390 = .ok (.iaload, 1) := by decide +kernel
theorem dL_law_391 : decode cL_law 391 = .ok (.aload_n 0, 1) := by decide +kernel
theorem dL_law_392 : decode cL_law 392 = .ok (.iload_n 3, 1) := by decide +kernel
theorem dL_law_393 : decode cL_law 393 = .ok (.iconst 2, 1) := by decide +kernel
theorem dL_law_394 : decode cL_law 394 = .ok (.iadd, 1) := by decide +kernel
theorem dL_law_395 : decode cL_law 395 = .ok (.iaload, 1) := by decide +kernel
theorem dL_law_396 : decode cL_law 396 = .ok (.aload_n 0, 1) := by decide +kernel
theorem dL_law_397 : decode cL_law 397 = .ok (.iload_n 3, 1) := by decide +kernel
theorem dL_law_398 : decode cL_law 398 = .ok (.iconst 3, 1) := by decide +kernel
theorem dL_law_399 : decode cL_law 399 = .ok (.iadd, 1) := by decide +kernel
theorem dL_law_400 : decode cL_law 400 = .ok (.iaload, 1) := by decide +kernel
theorem dL_law_401 : decode cL_law 401 = .ok (.invokevirtual 52, 3) := by decide +kernel
theorem dL_law_404 : decode cL_law 404 = .ok (.if_icmp .eq 441, 3) := by decide +kernel
theorem dL_law_407 : decode cL_law 407 = .ok (.iconst 0, 1) := by decide +kernel
theorem dL_law_408 : decode cL_law 408 = .ok (.ireturn, 1) := by decide +kernel
theorem dL_law_409 : decode cL_law 409 = .ok (.aload_n 1, 1) := by decide +kernel
theorem dL_law_410 : decode cL_law 410 = .ok (.invokevirtual 53, 3) := by decide +kernel
theorem dL_law_413 : decode cL_law 413 = .ok (.aload_n 2, 1) := by decide +kernel
theorem dL_law_414 : decode cL_law 414 = .ok (.invokevirtual 56, 3) := by decide +kernel
theorem dL_law_417 : decode cL_law 417 = .ok (.if_icmp .eq 428, 3) := by decide +kernel
theorem dL_law_420 : decode cL_law 420 = .ok (.iconst 0, 1) := by decide +kernel
theorem dL_law_421 : decode cL_law 421 = .ok (.ireturn, 1) := by decide +kernel
theorem dL_law_422 : decode cL_law 422 = .ok (.aload_n 1, 1) := by decide +kernel
theorem dL_law_423 : decode cL_law 423 = .ok (.invokevirtual 57, 3) := by decide +kernel
theorem dL_law_426 : decode cL_law 426 = .ok (.aload_n 2, 1) := by decide +kernel
theorem dL_law_427 : decode cL_law 427 = .ok (.invokevirtual 60, 3) := by decide +kernel
theorem dL_law_430 : decode cL_law 430 = .ok (.if_icmp .eq 415, 3) := by decide +kernel
theorem dL_law_433 : decode cL_law 433 = .ok (.iconst 0, 1) := by decide +kernel
theorem dL_law_434 : decode cL_law 434 = .ok (.ireturn, 1) := by decide +kernel
theorem dL_law_435 : decode cL_law 435 = .ok (.aload_n 1, 1) := by decide +kernel
theorem dL_law_436 : decode cL_law 436 = .ok (.invokevirtual 61, 3) := by decide +kernel
theorem dL_law_439 : decode cL_law 439 = .ok (.aload_n 2, 1) := by decide +kernel
theorem dL_law_440 : decode cL_law 440 = .ok (.invokevirtual 64, 3) := by decide +kernel
theorem dL_law_443 : decode cL_law 443 = .ok (.if_icmp .eq 402, 3) := by decide +kernel
theorem dL_law_446 : decode cL_law 446 = .ok (.iconst 0, 1) := by decide +kernel
theorem dL_law_447 : decode cL_law 447 = .ok (.ireturn, 1) := by decide +kernel
theorem dL_law_448 : decode cL_law 448 = .ok (.aload_n 1, 1) := by decide +kernel
theorem dL_law_449 : decode cL_law 449 = .ok (.aload_n 0, 1) := by decide +kernel
theorem dL_law_450 : decode cL_law 450 = .ok (.iload_n 3, 1) := by decide +kernel
theorem dL_law_451 : decode cL_law 451 = .ok (.iconst 1, 1) := by decide +kernel
theorem dL_law_452 : decode cL_law 452 = .ok (.iadd, 1) := by decide +kernel
theorem dL_law_453 : decode cL_law 453 = .ok (.iaload, 1) := by decide +kernel
theorem dL_law_454 : decode cL_law 454 = .ok (.aload_n 0, 1) := by decide +kernel
theorem dL_law_455 : decode cL_law 455 = .ok (.iload_n 3, 1) := by decide +kernel
theorem dL_law_456 : decode cL_law 456 = .ok (.iconst 2, 1) := by decide +kernel
theorem dL_law_457 : decode cL_law 457 = .ok (.iadd, 1) := by decide +kernel
theorem dL_law_458 : decode cL_law 458 = .ok (.iaload, 1) := by decide +kernel
theorem dL_law_459 : decode cL_law 459 = .ok (.invokevirtual 65, 3) := by decide +kernel
theorem dL_law_462 : decode cL_law 462 = .ok (.aload_n 2, 1) := by decide +kernel
theorem dL_law_463 : decode cL_law 463 = .ok (.aload_n 0, 1) := by decide +kernel
theorem dL_law_464 : decode cL_law 464 = .ok (.iload_n 3, 1) := by decide +kernel
theorem dL_law_465 : decode cL_law 465 = .ok (.iconst 1, 1) := by decide +kernel
theorem dL_law_466 : decode cL_law 466 = .ok (.iadd, 1) := by decide +kernel
theorem dL_law_467 : decode cL_law 467 = .ok (.iaload, 1) := by decide +kernel
theorem dL_law_468 : decode cL_law 468 = .ok (.aload_n 0, 1) := by decide +kernel
theorem dL_law_469 : decode cL_law 469 = .ok (.iload_n 3, 1) := by decide +kernel
theorem dL_law_470 : decode cL_law 470 = .ok (.iconst 2, 1) := by decide +kernel
theorem dL_law_471 : decode cL_law 471 = .ok (.iadd, 1) := by decide +kernel
theorem dL_law_472 : decode cL_law 472 = .ok (.iaload, 1) := by decide +kernel
theorem dL_law_473 : decode cL_law 473 = .ok (.invokevirtual 68, 3) := by decide +kernel
theorem dL_law_476 : decode cL_law 476 = .ok (.if_icmp .eq 369, 3) := by decide +kernel
theorem dL_law_479 : decode cL_law 479 = .ok (.iconst 0, 1) := by decide +kernel
theorem dL_law_480 : decode cL_law 480 = .ok (.ireturn, 1) := by decide +kernel
theorem dL_law_481 : decode cL_law 481 = .ok (.aload_n 1, 1) := by decide +kernel
theorem dL_law_482 : decode cL_law 482 = .ok (.aload_n 0, 1) := by decide +kernel
theorem dL_law_483 : decode cL_law 483 = .ok (.iload_n 3, 1) := by decide +kernel
theorem dL_law_484 : decode cL_law 484 = .ok (.iconst 1, 1) := by decide +kernel
theorem dL_law_485 : decode cL_law 485 = .ok (.iadd, 1) := by decide +kernel
theorem dL_law_486 : decode cL_law 486 = .ok (.iaload, 1) := by decide +kernel
theorem dL_law_487 : decode cL_law 487 = .ok (.invokevirtual 69, 3) := by decide +kernel
theorem dL_law_490 : decode cL_law 490 = .ok (.aload_n 2, 1) := by decide +kernel
theorem dL_law_491 : decode cL_law 491 = .ok (.aload_n 0, 1) := by decide +kernel
theorem dL_law_492 : decode cL_law 492 = .ok (.iload_n 3, 1) := by decide +kernel
theorem dL_law_493 : decode cL_law 493 = .ok (.iconst 1, 1) := by decide +kernel
theorem dL_law_494 : decode cL_law 494 = .ok (.iadd, 1) := by decide +kernel
theorem dL_law_495 : decode cL_law 495 = .ok (.iaload, 1) := by decide +kernel
theorem dL_law_496 : decode cL_law 496 = .ok (.invokevirtual 72, 3) := by decide +kernel
theorem dL_law_499 : decode cL_law 499 = .ok (.if_icmp .eq 346, 3) := by decide +kernel
theorem dL_law_502 : decode cL_law 502 = .ok (.iconst 0, 1) := by decide +kernel
theorem dL_law_503 : decode cL_law 503 = .ok (.ireturn, 1) := by decide +kernel
theorem dL_law_504 : decode cL_law 504 = .ok (.aload_n 1, 1) := by decide +kernel
theorem dL_law_505 : decode cL_law 505 = .ok (.aload_n 0, 1) := by decide +kernel
theorem dL_law_506 : decode cL_law 506 = .ok (.iload_n 3, 1) := by decide +kernel
theorem dL_law_507 : decode cL_law 507 = .ok (.iconst 1, 1) := by decide +kernel
theorem dL_law_508 : decode cL_law 508 = .ok (.iadd, 1) := by decide +kernel
theorem dL_law_509 : decode cL_law 509 = .ok (.iaload, 1) := by decide +kernel
theorem dL_law_510 : decode cL_law 510 = .ok (.invokevirtual 73, 3) := by decide +kernel
theorem dL_law_513 : decode cL_law 513 = .ok (.aload_n 2, 1) := by decide +kernel
theorem dL_law_514 : decode cL_law 514 = .ok (.aload_n 0, 1) := by decide +kernel
theorem dL_law_515 : decode cL_law 515 = .ok (.iload_n 3, 1) := by decide +kernel
theorem dL_law_516 : decode cL_law 516 = .ok (.iconst 1, 1) := by decide +kernel
theorem dL_law_517 : decode cL_law 517 = .ok (.iadd, 1) := by decide +kernel
theorem dL_law_518 : decode cL_law 518 = .ok (.iaload, 1) := by decide +kernel
theorem dL_law_519 : decode cL_law 519 = .ok (.invokevirtual 76, 3) := by decide +kernel
theorem dL_law_522 : decode cL_law 522 = .ok (.if_icmp .eq 323, 3) := by decide +kernel
theorem dL_law_525 : decode cL_law 525 = .ok (.iconst 0, 1) := by decide +kernel
theorem dL_law_526 : decode cL_law 526 = .ok (.ireturn, 1) := by decide +kernel
theorem dL_law_527 : decode cL_law 527 = .ok (.aload_n 1, 1) := by decide +kernel
theorem dL_law_528 : decode cL_law 528 = .ok (.aload_n 0, 1) := by decide +kernel
theorem dL_law_529 : decode cL_law 529 = .ok (.iload_n 3, 1) := by decide +kernel
theorem dL_law_530 : decode cL_law 530 = .ok (.iconst 1, 1) := by decide +kernel
theorem dL_law_531 : decode cL_law 531 = .ok (.iadd, 1) := by decide +kernel
theorem dL_law_532 : decode cL_law 532 = .ok (.iaload, 1) := by decide +kernel
theorem dL_law_533 : decode cL_law 533 = .ok (.invokevirtual 77, 3) := by decide +kernel
theorem dL_law_536 : decode cL_law 536 = .ok (.aload_n 2, 1) := by decide +kernel
theorem dL_law_537 : decode cL_law 537 = .ok (.aload_n 0, 1) := by decide +kernel
theorem dL_law_538 : decode cL_law 538 = .ok (.iload_n 3, 1) := by decide +kernel
theorem dL_law_539 : decode cL_law 539 = .ok (.iconst 1, 1) := by decide +kernel
theorem dL_law_540 : decode cL_law 540 = .ok (.iadd, 1) := by decide +kernel
theorem dL_law_541 : decode cL_law 541 = .ok (.iaload, 1) := by decide +kernel
theorem dL_law_542 : decode cL_law 542 = .ok (.invokevirtual 80, 3) := by decide +kernel
theorem dL_law_545 : decode cL_law 545 = .ok (.if_icmp .eq 300, 3) := by decide +kernel
theorem dL_law_548 : decode cL_law 548 = .ok (.iconst 0, 1) := by decide +kernel
theorem dL_law_549 : decode cL_law 549 = .ok (.ireturn, 1) := by decide +kernel
theorem dL_law_550 : decode cL_law 550 = .ok (.aload_n 1, 1) := by decide +kernel
theorem dL_law_551 : decode cL_law 551 = .ok (.aload_n 0, 1) := by decide +kernel
theorem dL_law_552 : decode cL_law 552 = .ok (.iload_n 3, 1) := by decide +kernel
theorem dL_law_553 : decode cL_law 553 = .ok (.iconst 1, 1) := by decide +kernel
theorem dL_law_554 : decode cL_law 554 = .ok (.iadd, 1) := by decide +kernel
theorem dL_law_555 : decode cL_law 555 = .ok (.iaload, 1) := by decide +kernel
theorem dL_law_556 : decode cL_law 556 = .ok (.invokevirtual 81, 3) := by decide +kernel
theorem dL_law_559 : decode cL_law 559 = .ok (.aload_n 2, 1) := by decide +kernel
theorem dL_law_560 : decode cL_law 560 = .ok (.aload_n 0, 1) := by decide +kernel
theorem dL_law_561 : decode cL_law 561 = .ok (.iload_n 3, 1) := by decide +kernel
theorem dL_law_562 : decode cL_law 562 = .ok (.iconst 1, 1) := by decide +kernel
theorem dL_law_563 : decode cL_law 563 = .ok (.iadd, 1) := by decide +kernel
theorem dL_law_564 : decode cL_law 564 = .ok (.iaload, 1) := by decide +kernel
theorem dL_law_565 : decode cL_law 565 = .ok (.invokevirtual 84, 3) := by decide +kernel
theorem dL_law_568 : decode cL_law 568 = .ok (.if_icmp .eq 277, 3) := by decide +kernel
theorem dL_law_571 : decode cL_law 571 = .ok (.iconst 0, 1) := by decide +kernel
theorem dL_law_572 : decode cL_law 572 = .ok (.ireturn, 1) := by decide +kernel
theorem dL_law_573 : decode cL_law 573 = .ok (.aload_n 1, 1) := by decide +kernel
theorem dL_law_574 : decode cL_law 574 = .ok (.invokevirtual 85, 3) := by decide +kernel
theorem dL_law_577 : decode cL_law 577 = .ok (.aload_n 2, 1) := by decide +kernel
theorem dL_law_578 : decode cL_law 578 = .ok (.invokevirtual 88, 3) := by decide +kernel
theorem dL_law_581 : decode cL_law 581 = .ok (.if_icmp .eq 264, 3) := by decide +kernel
theorem dL_law_584 : decode cL_law 584 = .ok (.iconst 0, 1) := by decide +kernel
theorem dL_law_585 : decode cL_law 585 = .ok (.ireturn, 1) := by decide +kernel
theorem dL_law_586 : decode cL_law 586 = .ok (.aload_n 1, 1) := by decide +kernel
theorem dL_law_587 : decode cL_law 587 = .ok (.aload_n 0, 1) := by decide +kernel
theorem dL_law_588 : decode cL_law 588 = .ok (.iload_n 3, 1) := by decide +kernel
theorem dL_law_589 : decode cL_law 589 = .ok (.iconst 1, 1) := by decide +kernel
theorem dL_law_590 : decode cL_law 590 = .ok (.iadd, 1) := by decide +kernel
theorem dL_law_591 : decode cL_law 591 = .ok (.iaload, 1) := by decide +kernel
theorem dL_law_592 : decode cL_law 592 = .ok (.invokevirtual 89, 3) := by decide +kernel
theorem dL_law_595 : decode cL_law 595 = .ok (.aload_n 2, 1) := by decide +kernel
theorem dL_law_596 : decode cL_law 596 = .ok (.aload_n 0, 1) := by decide +kernel
theorem dL_law_597 : decode cL_law 597 = .ok (.iload_n 3, 1) := by decide +kernel
theorem dL_law_598 : decode cL_law 598 = .ok (.iconst 1, 1) := by decide +kernel
theorem dL_law_599 : decode cL_law 599 = .ok (.iadd, 1) := by decide +kernel
theorem dL_law_600 : decode cL_law 600 = .ok (.iaload, 1) := by decide +kernel
theorem dL_law_601 : decode cL_law 601 = .ok (.invokevirtual 92, 3) := by decide +kernel
theorem dL_law_604 : decode cL_law 604 = .ok (.if_icmp .eq 241, 3) := by decide +kernel
theorem dL_law_607 : decode cL_law 607 = .ok (.iconst 0, 1) := by decide +kernel
theorem dL_law_608 : decode cL_law 608 = .ok (.ireturn, 1) := by decide +kernel
theorem dL_law_609 : decode cL_law 609 = .ok (.aload_n 1, 1) := by decide +kernel
theorem dL_law_610 : decode cL_law 610 = .ok (.invokevirtual 93, 3) := by decide +kernel
theorem dL_law_613 : decode cL_law 613 = .ok (.aload_n 2, 1) := by decide +kernel
theorem dL_law_614 : decode cL_law 614 = .ok (.invokevirtual 96, 3) := by decide +kernel
theorem dL_law_617 : decode cL_law 617 = .ok (.if_icmp .eq 228, 3) := by decide +kernel
theorem dL_law_620 : decode cL_law 620 = .ok (.iconst 0, 1) := by decide +kernel
theorem dL_law_621 : decode cL_law 621 = .ok (.ireturn, 1) := by decide +kernel
theorem dL_law_622 : decode cL_law 622 = .ok (.aload_n 1, 1) := by decide +kernel
theorem dL_law_623 : decode cL_law 623 = .ok (.aload_n 0, 1) := by decide +kernel
theorem dL_law_624 : decode cL_law 624 = .ok (.iload_n 3, 1) := by decide +kernel
theorem dL_law_625 : decode cL_law 625 = .ok (.iconst 1, 1) := by decide +kernel
theorem dL_law_626 : decode cL_law 626 = .ok (.iadd, 1) := by decide +kernel
theorem dL_law_627 : decode cL_law 627 = .ok (.iaload, 1) := by decide +kernel
theorem dL_law_628 : decode cL_law 628 = .ok (.invokevirtual 97, 3) := by decide +kernel
theorem dL_law_631 : decode cL_law 631 = .ok (.aload_n 2, 1) := by decide +kernel
theorem dL_law_632 : decode cL_law 632 = .ok (.aload_n 0, 1) := by decide +kernel
theorem dL_law_633 : decode cL_law 633 = .ok (.iload_n 3, 1) := by decide +kernel
theorem dL_law_634 : decode cL_law 634 = .ok (.iconst 1, 1) := by decide +kernel
theorem dL_law_635 : decode cL_law 635 = .ok (.iadd, 1) := by decide +kernel
theorem dL_law_636 : decode cL_law 636 = .ok (.iaload, 1) := by decide +kernel
theorem dL_law_637 : decode cL_law 637 = .ok (.invokevirtual 100, 3) := by decide +kernel
theorem dL_law_640 : decode cL_law 640 = .ok (.if_icmp .eq 205, 3) := by decide +kernel
theorem dL_law_643 : decode cL_law 643 = .ok (.iconst 0, 1) := by decide +kernel
theorem dL_law_644 : decode cL_law 644 = .ok (.ireturn, 1) := by decide +kernel
theorem dL_law_645 : decode cL_law 645 = .ok (.aload_n 1, 1) := by decide +kernel
theorem dL_law_646 : decode cL_law 646 = .ok (.aload_n 0, 1) := by decide +kernel
theorem dL_law_647 : decode cL_law 647 = .ok (.iload_n 3, 1) := by decide +kernel
theorem dL_law_648 : decode cL_law 648 = .ok (.iconst 1, 1) := by decide +kernel
theorem dL_law_649 : decode cL_law 649 = .ok (.iadd, 1) := by decide +kernel
theorem dL_law_650 : decode cL_law 650 = .ok (.iaload, 1) := by decide +kernel
theorem dL_law_651 : decode cL_law 651 = .ok (.invokevirtual 101, 3) := by decide +kernel
theorem dL_law_654 : decode cL_law 654 = .ok (.aload_n 2, 1) := by decide +kernel
theorem dL_law_655 : decode cL_law 655 = .ok (.aload_n 0, 1) := by decide +kernel
theorem dL_law_656 : decode cL_law 656 = .ok (.iload_n 3, 1) := by decide +kernel
theorem dL_law_657 : decode cL_law 657 = .ok (.iconst 1, 1) := by decide +kernel
theorem dL_law_658 : decode cL_law 658 = .ok (.iadd, 1) := by decide +kernel
theorem dL_law_659 : decode cL_law 659 = .ok (.iaload, 1) := by decide +kernel
theorem dL_law_660 : decode cL_law 660 = .ok (.invokevirtual 104, 3) := by decide +kernel
theorem dL_law_663 : decode cL_law 663 = .ok (.if_icmp .eq 182, 3) := by decide +kernel
theorem dL_law_666 : decode cL_law 666 = .ok (.iconst 0, 1) := by decide +kernel
theorem dL_law_667 : decode cL_law 667 = .ok (.ireturn, 1) := by decide +kernel
theorem dL_law_668 : decode cL_law 668 = .ok (.aload_n 1, 1) := by decide +kernel
theorem dL_law_669 : decode cL_law 669 = .ok (.aload_n 0, 1) := by decide +kernel
theorem dL_law_670 : decode cL_law 670 = .ok (.iload_n 3, 1) := by decide +kernel
theorem dL_law_671 : decode cL_law 671 = .ok (.iconst 1, 1) := by decide +kernel
theorem dL_law_672 : decode cL_law 672 = .ok (.iadd, 1) := by decide +kernel
theorem dL_law_673 : decode cL_law 673 = .ok (.iaload, 1) := by decide +kernel
theorem dL_law_674 : decode cL_law 674 = .ok (.invokevirtual 105, 3) := by decide +kernel
theorem dL_law_677 : decode cL_law 677 = .ok (.aload_n 2, 1) := by decide +kernel
theorem dL_law_678 : decode cL_law 678 = .ok (.aload_n 0, 1) := by decide +kernel
theorem dL_law_679 : decode cL_law 679 = .ok (.iload_n 3, 1) := by decide +kernel
theorem dL_law_680 : decode cL_law 680 = .ok (.iconst 1, 1) := by decide +kernel
theorem dL_law_681 : decode cL_law 681 = .ok (.iadd, 1) := by decide +kernel
theorem dL_law_682 : decode cL_law 682 = .ok (.iaload, 1) := by decide +kernel
theorem dL_law_683 : decode cL_law 683 = .ok (.invokevirtual 108, 3) := by decide +kernel
theorem dL_law_686 : decode cL_law 686 = .ok (.if_icmp .eq 159, 3) := by decide +kernel
theorem dL_law_689 : decode cL_law 689 = .ok (.iconst 0, 1) := by decide +kernel
theorem dL_law_690 : decode cL_law 690 = .ok (.ireturn, 1) := by decide +kernel
theorem dL_law_691 : decode cL_law 691 = .ok (.aload_n 1, 1) := by decide +kernel
theorem dL_law_692 : decode cL_law 692 = .ok (.aload_n 0, 1) := by decide +kernel
theorem dL_law_693 : decode cL_law 693 = .ok (.iload_n 3, 1) := by decide +kernel
theorem dL_law_694 : decode cL_law 694 = .ok (.iconst 1, 1) := by decide +kernel
theorem dL_law_695 : decode cL_law 695 = .ok (.iadd, 1) := by decide +kernel
theorem dL_law_696 : decode cL_law 696 = .ok (.iaload, 1) := by decide +kernel
theorem dL_law_697 : decode cL_law 697 = .ok (.invokevirtual 109, 3) := by decide +kernel
theorem dL_law_700 : decode cL_law 700 = .ok (.aload_n 2, 1) := by decide +kernel
theorem dL_law_701 : decode cL_law 701 = .ok (.aload_n 0, 1) := by decide +kernel
theorem dL_law_702 : decode cL_law 702 = .ok (.iload_n 3, 1) := by decide +kernel
theorem dL_law_703 : decode cL_law 703 = .ok (.iconst 1, 1) := by decide +kernel
theorem dL_law_704 : decode cL_law 704 = .ok (.iadd, 1) := by decide +kernel
theorem dL_law_705 : decode cL_law 705 = .ok (.iaload, 1) := by decide +kernel
theorem dL_law_706 : decode cL_law 706 = .ok (.invokevirtual 112, 3) := by decide +kernel
theorem dL_law_709 : decode cL_law 709 = .ok (.if_icmp .eq 136, 3) := by decide +kernel
theorem dL_law_712 : decode cL_law 712 = .ok (.iconst 0, 1) := by decide +kernel
theorem dL_law_713 : decode cL_law 713 = .ok (.ireturn, 1) := by decide +kernel
theorem dL_law_714 : decode cL_law 714 = .ok (.aload_n 1, 1) := by decide +kernel
theorem dL_law_715 : decode cL_law 715 = .ok (.aload_n 0, 1) := by decide +kernel
theorem dL_law_716 : decode cL_law 716 = .ok (.iload_n 3, 1) := by decide +kernel
theorem dL_law_717 : decode cL_law 717 = .ok (.iconst 1, 1) := by decide +kernel
theorem dL_law_718 : decode cL_law 718 = .ok (.iadd, 1) := by decide +kernel
theorem dL_law_719 : decode cL_law 719 = .ok (.iaload, 1) := by decide +kernel
theorem dL_law_720 : decode cL_law 720 = .ok (.invokevirtual 113, 3) := by decide +kernel
theorem dL_law_723 : decode cL_law 723 = .ok (.aload_n 2, 1) := by decide +kernel
theorem dL_law_724 : decode cL_law 724 = .ok (.aload_n 0, 1) := by decide +kernel
theorem dL_law_725 : decode cL_law 725 = .ok (.iload_n 3, 1) := by decide +kernel
theorem dL_law_726 : decode cL_law 726 = .ok (.iconst 1, 1) := by decide +kernel
theorem dL_law_727 : decode cL_law 727 = .ok (.iadd, 1) := by decide +kernel
theorem dL_law_728 : decode cL_law 728 = .ok (.iaload, 1) := by decide +kernel
theorem dL_law_729 : decode cL_law 729 = .ok (.invokevirtual 116, 3) := by decide +kernel
theorem dL_law_732 : decode cL_law 732 = .ok (.if_icmp .eq 113, 3) := by decide +kernel
theorem dL_law_735 : decode cL_law 735 = .ok (.iconst 0, 1) := by decide +kernel
theorem dL_law_736 : decode cL_law 736 = .ok (.ireturn, 1) := by decide +kernel
theorem dL_law_737 : decode cL_law 737 = .ok (.aload_n 1, 1) := by decide +kernel
theorem dL_law_738 : decode cL_law 738 = .ok (.invokevirtual 117, 3) := by decide +kernel
theorem dL_law_741 : decode cL_law 741 = .ok (.aload_n 2, 1) := by decide +kernel
theorem dL_law_742 : decode cL_law 742 = .ok (.invokevirtual 120, 3) := by decide +kernel
theorem dL_law_745 : decode cL_law 745 = .ok (.if_icmp .eq 100, 3) := by decide +kernel
theorem dL_law_748 : decode cL_law 748 = .ok (.iconst 0, 1) := by decide +kernel
theorem dL_law_749 : decode cL_law 749 = .ok (.ireturn, 1) := by decide +kernel
theorem dL_law_750 : decode cL_law 750 = .ok (.aload_n 1, 1) := by decide +kernel
theorem dL_law_751 : decode cL_law 751 = .ok (.aload_n 0, 1) := by decide +kernel
theorem dL_law_752 : decode cL_law 752 = .ok (.iload_n 3, 1) := by decide +kernel
theorem dL_law_753 : decode cL_law 753 = .ok (.iconst 1, 1) := by decide +kernel
theorem dL_law_754 : decode cL_law 754 = .ok (.iadd, 1) := by decide +kernel
theorem dL_law_755 : decode cL_law 755 = .ok (.iaload, 1) := by decide +kernel
theorem dL_law_756 : decode cL_law 756 = .ok (.invokevirtual 121, 3) := by decide +kernel
theorem dL_law_759 : decode cL_law 759 = .ok (.aload_n 2, 1) := by decide +kernel
theorem dL_law_760 : decode cL_law 760 = .ok (.aload_n 0, 1) := by decide +kernel
theorem dL_law_761 : decode cL_law 761 = .ok (.iload_n 3, 1) := by decide +kernel
theorem dL_law_762 : decode cL_law 762 = .ok (.iconst 1, 1) := by decide +kernel
theorem dL_law_763 : decode cL_law 763 = .ok (.iadd, 1) := by decide +kernel
theorem dL_law_764 : decode cL_law 764 = .ok (.iaload, 1) := by decide +kernel
theorem dL_law_765 : decode cL_law 765 = .ok (.invokevirtual 124, 3) := by decide +kernel
theorem dL_law_768 : decode cL_law 768 = .ok (.if_icmp .eq 77, 3) := by decide +kernel
theorem dL_law_771 : decode cL_law 771 = .ok (.iconst 0, 1) := by decide +kernel
theorem dL_law_772 : decode cL_law 772 = .ok (.ireturn, 1) := by decide +kernel
theorem dL_law_773 : decode cL_law 773 = .ok (.aload_n 1, 1) := by decide +kernel
theorem dL_law_774 : decode cL_law 774 = .ok (.aload_n 0, 1) := by decide +kernel
theorem dL_law_775 : decode cL_law 775 = .ok (.iload_n 3, 1) := by decide +kernel
theorem dL_law_776 : decode cL_law 776 = .ok (.iconst 1, 1) := by decide +kernel
theorem dL_law_777 : decode cL_law 777 = .ok (.iadd, 1) := by decide +kernel
theorem dL_law_778 : decode cL_law 778 = .ok (.iaload, 1) := by decide +kernel
theorem dL_law_779 : decode cL_law 779 = .ok (.aload_n 0, 1) := by decide +kernel
theorem dL_law_780 : decode cL_law 780 = .ok (.iload_n 3, 1) := by decide +kernel
theorem dL_law_781 : decode cL_law 781 = .ok (.iconst 2, 1) := by decide +kernel
theorem dL_law_782 : decode cL_law 782 = .ok (.iadd, 1) := by decide +kernel
theorem dL_law_783 : decode cL_law 783 = .ok (.iaload, 1) := by decide +kernel
theorem dL_law_784 : decode cL_law 784 = .ok (.invokevirtual 125, 3) := by decide +kernel
theorem dL_law_787 : decode cL_law 787 = .ok (.aload_n 2, 1) := by decide +kernel
theorem dL_law_788 : decode cL_law 788 = .ok (.aload_n 0, 1) := by decide +kernel
theorem dL_law_789 : decode cL_law 789 = .ok (.iload_n 3, 1) := by decide +kernel
theorem dL_law_790 : decode cL_law 790 = .ok (.iconst 1, 1) := by decide +kernel
theorem dL_law_791 : decode cL_law 791 = .ok (.iadd, 1) := by decide +kernel
theorem dL_law_792 : decode cL_law 792 = .ok (.iaload, 1) := by decide +kernel
theorem dL_law_793 : decode cL_law 793 = .ok (.aload_n 0, 1) := by decide +kernel
theorem dL_law_794 : decode cL_law 794 = .ok (.iload_n 3, 1) := by decide +kernel
theorem dL_law_795 : decode cL_law 795 = .ok (.iconst 2, 1) := by decide +kernel
theorem dL_law_796 : decode cL_law 796 = .ok (.iadd, 1) := by decide +kernel
theorem dL_law_797 : decode cL_law 797 = .ok (.iaload, 1) := by decide +kernel
theorem dL_law_798 : decode cL_law 798 = .ok (.invokevirtual 128, 3) := by decide +kernel
theorem dL_law_801 : decode cL_law 801 = .ok (.if_icmp .eq 44, 3) := by decide +kernel
theorem dL_law_804 : decode cL_law 804 = .ok (.iconst 0, 1) := by decide +kernel
theorem dL_law_805 : decode cL_law 805 = .ok (.ireturn, 1) := by decide +kernel
theorem dL_law_806 : decode cL_law 806 = .ok (.aload_n 1, 1) := by decide +kernel
theorem dL_law_807 : decode cL_law 807 = .ok (.invokevirtual 129, 3) := by decide +kernel
theorem dL_law_810 : decode cL_law 810 = .ok (.aload_n 2, 1) := by decide +kernel
theorem dL_law_811 : decode cL_law 811 = .ok (.invokevirtual 132, 3) := by decide +kernel
theorem dL_law_814 : decode cL_law 814 = .ok (.if_icmp .eq 31, 3) := by decide +kernel
theorem dL_law_817 : decode cL_law 817 = .ok (.iconst 0, 1) := by decide +kernel
theorem dL_law_818 : decode cL_law 818 = .ok (.ireturn, 1) := by decide +kernel
theorem dL_law_819 : decode cL_law 819 = .ok (.aload_n 1, 1) := by decide +kernel
theorem dL_law_820 : decode cL_law 820 = .ok (.invokevirtual 133, 3) := by decide +kernel
theorem dL_law_823 : decode cL_law 823 = .ok (.aload_n 2, 1) := by decide +kernel
theorem dL_law_824 : decode cL_law 824 = .ok (.invokevirtual 136, 3) := by decide +kernel
theorem dL_law_827 : decode cL_law 827 = .ok (.if_icmp .eq 18, 3) := by decide +kernel
theorem dL_law_830 : decode cL_law 830 = .ok (.iconst 0, 1) := by decide +kernel
theorem dL_law_831 : decode cL_law 831 = .ok (.ireturn, 1) := by decide +kernel
theorem dL_law_832 : decode cL_law 832 = .ok (.aload_n 1, 1) := by decide +kernel
theorem dL_law_833 : decode cL_law 833 = .ok (.invokevirtual 137, 3) := by decide +kernel
theorem dL_law_836 : decode cL_law 836 = .ok (.aload_n 2, 1) := by decide +kernel
theorem dL_law_837 : decode cL_law 837 = .ok (.invokevirtual 140, 3) := by decide +kernel
theorem dL_law_840 : decode cL_law 840 = .ok (.if_icmp .eq 5, 3) := by decide +kernel
theorem dL_law_843 : decode cL_law 843 = .ok (.iconst 0, 1) := by decide +kernel
theorem dL_law_844 : decode cL_law 844 = .ok (.ireturn, 1) := by decide +kernel
theorem dL_law_845 : decode cL_law 845 = .ok (.iinc 3 4, 3) := by decide +kernel
theorem dL_law_848 : decode cL_law 848 = .ok (.goto (-830), 3) := by decide +kernel
theorem dL_law_851 : decode cL_law 851 = .ok (.iconst 1, 1) := by decide +kernel
theorem dL_law_852 : decode cL_law 852 = .ok (.ireturn, 1) := by decide +kernel
end
section
/-! the words of the tables that stay good over a call, and where each one lies -/
def TT : List Cond := lw_tbl.filter goodWord
theorem tt_of {w : Cond} (h : w ∈ lw_tbl) (g : goodWord w = true) : w ∈ TT := List.mem_filter.mpr ⟨h, g⟩
theorem tt_in {w : Cond} (h : w ∈ TT) : w ∈ lw_tbl := (List.mem_filter.mp h).1
theorem tt_gd {w : Cond} (h : w ∈ TT) : (w.onTables && w.keeps) = true ∨ ∃ ty, w = .arrayClass ty := good_of_word (List.mem_filter.mp h).2
theorem tt_0 {w : Cond} (h : w ∈ tables_1) : w ∈ lw_tbl := List.mem_append_right _ h
theorem tt_1 {w : Cond} (h : w ∈ tables_1_1) : w ∈ lw_tbl := tt_0 (List.mem_append_left _ h)
theorem tt_2 {w : Cond} (h : w ∈ tables_1_2) : w ∈ lw_tbl := tt_0 (List.mem_append_right _ (List.mem_append_left _ h))
theorem tt_3 {w : Cond} (h : w ∈ tables_1_3) : w ∈ lw_tbl := tt_0 (List.mem_append_right _ (List.mem_append_right _ (List.mem_append_left _ h)))
theorem tt_4 {w : Cond} (h : w ∈ tables_1_4) : w ∈ lw_tbl := tt_0 (List.mem_append_right _ (List.mem_append_right _ (List.mem_append_right _ (List.mem_append_left _ h))))
theorem tt_5 {w : Cond} (h : w ∈ tables_1_5) : w ∈ lw_tbl := tt_0 (List.mem_append_right _ (List.mem_append_right _ (List.mem_append_right _ (List.mem_append_right _ h))))
theorem tt_s {w : Cond} (i : Nat) (h : (k2_sels lw_privs)[i]? = some w) : w ∈ lw_tbl := List.mem_append_left _ (List.mem_of_getElem? h)
theorem wi_L : Cond.initialized RL ∈ TT := tt_of (tt_1 (List.mem_of_getElem? (i := 0) rfl)) rfl
theorem wi_X7 : Cond.initialized RX7 ∈ TT := tt_of (tt_1 (List.mem_of_getElem? (i := 1) rfl)) rfl
theorem wi_X6 : Cond.initialized RX6 ∈ TT := tt_of (tt_1 (List.mem_of_getElem? (i := 2) rfl)) rfl
theorem wi_X2 : Cond.initialized RX2 ∈ TT := tt_of (tt_1 (List.mem_of_getElem? (i := 3) rfl)) rfl
theorem wi_X3 : Cond.initialized RX3 ∈ TT := tt_of (tt_1 (List.mem_of_getElem? (i := 4) rfl)) rfl
theorem wi_X4 : Cond.initialized RX4 ∈ TT := tt_of (tt_1 (List.mem_of_getElem? (i := 5) rfl)) rfl
theorem wi_X5 : Cond.initialized RX5 ∈ TT := tt_of (tt_1 (List.mem_of_getElem? (i := 6) rfl)) rfl
theorem wi_X1 : Cond.initialized RX1 ∈ TT := tt_of (tt_1 (List.mem_of_getElem? (i := 7) rfl)) rfl
theorem wi_X0 : Cond.initialized RX0 ∈ TT := tt_of (tt_1 (List.mem_of_getElem? (i := 8) rfl)) rfl
theorem wi_X8 : Cond.initialized RX8 ∈ TT := tt_of (tt_1 (List.mem_of_getElem? (i := 9) rfl)) rfl
theorem wi_J10 : Cond.initialized RJ10 ∈ TT := tt_of (tt_1 (List.mem_of_getElem? (i := 10) rfl)) rfl
theorem wi_J9 : Cond.initialized RJ9 ∈ TT := tt_of (tt_1 (List.mem_of_getElem? (i := 11) rfl)) rfl
theorem wi_J13 : Cond.initialized RJ13 ∈ TT := tt_of (tt_1 (List.mem_of_getElem? (i := 12) rfl)) rfl
theorem wc_L_7 : Cond.classLink RL 7 RX7 ∈ TT := tt_of (tt_1 (List.mem_of_getElem? (i := 13) rfl)) rfl
theorem wn_X7 : Cond.instantiable RX7 6 ∈ TT := tt_of (tt_1 (List.mem_of_getElem? (i := 14) rfl)) rfl
theorem wc_X7_7 : Cond.classLink RX7 7 RX6 ∈ TT := tt_of (tt_1 (List.mem_of_getElem? (i := 21) rfl)) rfl
theorem wn_X6 : Cond.instantiable RX6 2 ∈ TT := tt_of (tt_1 (List.mem_of_getElem? (i := 22) rfl)) rfl
theorem wa_int : Cond.arrayClass .int ∈ TT := tt_of (tt_1 (List.mem_of_getElem? (i := 35) rfl)) rfl
theorem wc_X7_16 : Cond.classLink RX7 16 RX2 ∈ TT := tt_of (tt_1 (List.mem_of_getElem? (i := 36) rfl)) rfl
theorem wn_X2 : Cond.instantiable RX2 7 ∈ TT := tt_of (tt_1 (List.mem_of_getElem? (i := 37) rfl)) rfl
theorem wc_X7_23 : Cond.classLink RX7 23 RX3 ∈ TT := tt_of (tt_1 (List.mem_of_getElem? (i := 83) rfl)) rfl
theorem wn_X3 : Cond.instantiable RX3 3 ∈ TT := tt_of (tt_1 (List.mem_of_getElem? (i := 84) rfl)) rfl
theorem wc_X3_9 : Cond.classLink RX3 9 RX2 ∈ TT := tt_of (tt_1 (List.mem_of_getElem? (i := 89) rfl)) rfl
theorem wc_X7_30 : Cond.classLink RX7 30 RX4 ∈ TT := tt_of (tt_1 (List.mem_of_getElem? (i := 103) rfl)) rfl
theorem wn_X4 : Cond.instantiable RX4 7 ∈ TT := tt_of (tt_1 (List.mem_of_getElem? (i := 104) rfl)) rfl
theorem wa_long : Cond.arrayClass .long ∈ TT := tt_of (tt_1 (List.mem_of_getElem? (i := 140) rfl)) rfl
theorem wc_X7_39 : Cond.classLink RX7 39 RX5 ∈ TT := tt_of (tt_1 (List.mem_of_getElem? (i := 141) rfl)) rfl
theorem wn_X5 : Cond.instantiable RX5 9 ∈ TT := tt_of (tt_1 (List.mem_of_getElem? (i := 142) rfl)) rfl
theorem wc_X7_48 : Cond.classLink RX7 48 RX1 ∈ TT := tt_of (tt_1 (List.mem_of_getElem? (i := 175) rfl)) rfl
theorem wn_X1 : Cond.instantiable RX1 3 ∈ TT := tt_of (tt_1 (List.mem_of_getElem? (i := 176) rfl)) rfl
theorem wk_X4_60 : Cond.constantLong RX4 60 (-1) ∈ TT := tt_of (tt_1 (List.mem_of_getElem? (i := 233) rfl)) rfl
theorem wk_J13_314 : Cond.constantLong RJ13 314 (6148914691236517205) ∈ TT := tt_of (tt_2 (List.mem_of_getElem? (i := 109) rfl)) rfl
theorem wk_J13_316 : Cond.constantLong RJ13 316 (3689348814741910323) ∈ TT := tt_of (tt_2 (List.mem_of_getElem? (i := 110) rfl)) rfl
theorem wk_J13_318 : Cond.constantLong RJ13 318 (1085102592571150095) ∈ TT := tt_of (tt_2 (List.mem_of_getElem? (i := 111) rfl)) rfl
theorem wk_X7_133 : Cond.constantLong RX7 133 (-1) ∈ TT := tt_of (tt_2 (List.mem_of_getElem? (i := 139) rfl)) rfl
theorem wk_X0_33 : Cond.constantLong RX0 33 (-1) ∈ TT := tt_of (tt_2 (List.mem_of_getElem? (i := 176) rfl)) rfl
theorem wk_X0_13 : Cond.constantLong RX0 13 (127) ∈ TT := tt_of (tt_2 (List.mem_of_getElem? (i := 236) rfl)) rfl
theorem wk_X0_15 : Cond.constantLong RX0 15 (282578800148737) ∈ TT := tt_of (tt_3 (List.mem_of_getElem? (i := 1) rfl)) rfl
theorem wk_X5_79 : Cond.constant RX5 79 (1048576) ∈ TT := tt_of (tt_3 (List.mem_of_getElem? (i := 18) rfl)) rfl
theorem wk_X1_51 : Cond.constantLong RX1 51 (-1) ∈ TT := tt_of (tt_3 (List.mem_of_getElem? (i := 100) rfl)) rfl
theorem wc_L_10 : Cond.classLink RL 10 RX8 ∈ TT := tt_of (tt_3 (List.mem_of_getElem? (i := 146) rfl)) rfl
theorem wn_X8 : Cond.instantiable RX8 27 ∈ TT := tt_of (tt_3 (List.mem_of_getElem? (i := 147) rfl)) rfl
theorem wa_boolean : Cond.arrayClass .boolean ∈ TT := tt_of (tt_3 (List.mem_of_getElem? (i := 234) rfl)) rfl
theorem ly_X1_0 : u_lay RX1 TX1 0 ∈ TT := tt_of (tt_1 (List.mem_of_getElem? (i := 185) (by decide +kernel))) (by decide +kernel)
theorem ly_X1_1 : u_lay RX1 TX1 1 ∈ TT := tt_of (tt_1 (List.mem_of_getElem? (i := 187) (by decide +kernel))) (by decide +kernel)
theorem ly_X1_2 : u_lay RX1 TX1 2 ∈ TT := tt_of (tt_1 (List.mem_of_getElem? (i := 189) (by decide +kernel))) (by decide +kernel)
theorem in_X1 : ∀ w ∈ u_ws RX1 TX1 3, w ∈ TT := by
  show ∀ w ∈ [u_lay RX1 TX1 0, u_lay RX1 TX1 1, u_lay RX1 TX1 2], w ∈ TT
  exact List.forall_mem_cons.mpr ⟨ly_X1_0, List.forall_mem_cons.mpr ⟨ly_X1_1, List.forall_mem_cons.mpr ⟨ly_X1_2, fun _ h => absurd h List.not_mem_nil⟩⟩⟩
theorem ly_X2_0 : u_lay RX2 TX2 0 ∈ TT := tt_of (tt_1 (List.mem_of_getElem? (i := 68) (by decide +kernel))) (by decide +kernel)
theorem ly_X2_1 : u_lay RX2 TX2 1 ∈ TT := tt_of (tt_1 (List.mem_of_getElem? (i := 70) (by decide +kernel))) (by decide +kernel)
theorem ly_X2_2 : u_lay RX2 TX2 2 ∈ TT := tt_of (tt_1 (List.mem_of_getElem? (i := 72) (by decide +kernel))) (by decide +kernel)
theorem ly_X2_3 : u_lay RX2 TX2 3 ∈ TT := tt_of (tt_1 (List.mem_of_getElem? (i := 74) (by decide +kernel))) (by decide +kernel)
theorem ly_X2_4 : u_lay RX2 TX2 4 ∈ TT := tt_of (tt_1 (List.mem_of_getElem? (i := 76) (by decide +kernel))) (by decide +kernel)
theorem ly_X2_5 : u_lay RX2 TX2 5 ∈ TT := tt_of (tt_1 (List.mem_of_getElem? (i := 78) (by decide +kernel))) (by decide +kernel)
theorem ly_X2_6 : u_lay RX2 TX2 6 ∈ TT := tt_of (tt_1 (List.mem_of_getElem? (i := 80) (by decide +kernel))) (by decide +kernel)
theorem in_X2 : ∀ w ∈ u_ws RX2 TX2 7, w ∈ TT := by
  show ∀ w ∈ [u_lay RX2 TX2 0, u_lay RX2 TX2 1, u_lay RX2 TX2 2, u_lay RX2 TX2 3, u_lay RX2 TX2 4, u_lay RX2 TX2 5, u_lay RX2 TX2 6], w ∈ TT
  exact List.forall_mem_cons.mpr ⟨ly_X2_0, List.forall_mem_cons.mpr ⟨ly_X2_1, List.forall_mem_cons.mpr ⟨ly_X2_2, List.forall_mem_cons.mpr ⟨ly_X2_3, List.forall_mem_cons.mpr ⟨ly_X2_4, List.forall_mem_cons.mpr ⟨ly_X2_5, List.forall_mem_cons.mpr ⟨ly_X2_6, fun _ h => absurd h List.not_mem_nil⟩⟩⟩⟩⟩⟩⟩
theorem ly_X3_0 : u_lay RX3 TX3 0 ∈ TT := tt_of (tt_1 (List.mem_of_getElem? (i := 96) (by decide +kernel))) (by decide +kernel)
theorem ly_X3_1 : u_lay RX3 TX3 1 ∈ TT := tt_of (tt_1 (List.mem_of_getElem? (i := 98) (by decide +kernel))) (by decide +kernel)
theorem ly_X3_2 : u_lay RX3 TX3 2 ∈ TT := tt_of (tt_1 (List.mem_of_getElem? (i := 100) (by decide +kernel))) (by decide +kernel)
theorem in_X3 : ∀ w ∈ u_ws RX3 TX3 3, w ∈ TT := by
  show ∀ w ∈ [u_lay RX3 TX3 0, u_lay RX3 TX3 1, u_lay RX3 TX3 2], w ∈ TT
  exact List.forall_mem_cons.mpr ⟨ly_X3_0, List.forall_mem_cons.mpr ⟨ly_X3_1, List.forall_mem_cons.mpr ⟨ly_X3_2, fun _ h => absurd h List.not_mem_nil⟩⟩⟩
theorem ly_X4_0 : u_lay RX4 TX4 0 ∈ TT := tt_of (tt_1 (List.mem_of_getElem? (i := 125) (by decide +kernel))) (by decide +kernel)
theorem ly_X4_1 : u_lay RX4 TX4 1 ∈ TT := tt_of (tt_1 (List.mem_of_getElem? (i := 127) (by decide +kernel))) (by decide +kernel)
theorem ly_X4_2 : u_lay RX4 TX4 2 ∈ TT := tt_of (tt_1 (List.mem_of_getElem? (i := 129) (by decide +kernel))) (by decide +kernel)
theorem ly_X4_3 : u_lay RX4 TX4 3 ∈ TT := tt_of (tt_1 (List.mem_of_getElem? (i := 131) (by decide +kernel))) (by decide +kernel)
theorem ly_X4_4 : u_lay RX4 TX4 4 ∈ TT := tt_of (tt_1 (List.mem_of_getElem? (i := 133) (by decide +kernel))) (by decide +kernel)
theorem ly_X4_5 : u_lay RX4 TX4 5 ∈ TT := tt_of (tt_1 (List.mem_of_getElem? (i := 135) (by decide +kernel))) (by decide +kernel)
theorem ly_X4_6 : u_lay RX4 TX4 6 ∈ TT := tt_of (tt_1 (List.mem_of_getElem? (i := 137) (by decide +kernel))) (by decide +kernel)
theorem in_X4 : ∀ w ∈ u_ws RX4 TX4 7, w ∈ TT := by
  show ∀ w ∈ [u_lay RX4 TX4 0, u_lay RX4 TX4 1, u_lay RX4 TX4 2, u_lay RX4 TX4 3, u_lay RX4 TX4 4, u_lay RX4 TX4 5, u_lay RX4 TX4 6], w ∈ TT
  exact List.forall_mem_cons.mpr ⟨ly_X4_0, List.forall_mem_cons.mpr ⟨ly_X4_1, List.forall_mem_cons.mpr ⟨ly_X4_2, List.forall_mem_cons.mpr ⟨ly_X4_3, List.forall_mem_cons.mpr ⟨ly_X4_4, List.forall_mem_cons.mpr ⟨ly_X4_5, List.forall_mem_cons.mpr ⟨ly_X4_6, fun _ h => absurd h List.not_mem_nil⟩⟩⟩⟩⟩⟩⟩
theorem ly_X5_0 : u_lay RX5 TX5 0 ∈ TT := tt_of (tt_1 (List.mem_of_getElem? (i := 156) (by decide +kernel))) (by decide +kernel)
theorem ly_X5_1 : u_lay RX5 TX5 1 ∈ TT := tt_of (tt_1 (List.mem_of_getElem? (i := 158) (by decide +kernel))) (by decide +kernel)
theorem ly_X5_2 : u_lay RX5 TX5 2 ∈ TT := tt_of (tt_1 (List.mem_of_getElem? (i := 160) (by decide +kernel))) (by decide +kernel)
theorem ly_X5_3 : u_lay RX5 TX5 3 ∈ TT := tt_of (tt_1 (List.mem_of_getElem? (i := 162) (by decide +kernel))) (by decide +kernel)
theorem ly_X5_4 : u_lay RX5 TX5 4 ∈ TT := tt_of (tt_1 (List.mem_of_getElem? (i := 164) (by decide +kernel))) (by decide +kernel)
theorem ly_X5_5 : u_lay RX5 TX5 5 ∈ TT := tt_of (tt_1 (List.mem_of_getElem? (i := 166) (by decide +kernel))) (by decide +kernel)
theorem ly_X5_6 : u_lay RX5 TX5 6 ∈ TT := tt_of (tt_1 (List.mem_of_getElem? (i := 168) (by decide +kernel))) (by decide +kernel)
theorem ly_X5_7 : u_lay RX5 TX5 7 ∈ TT := tt_of (tt_1 (List.mem_of_getElem? (i := 170) (by decide +kernel))) (by decide +kernel)
theorem ly_X5_8 : u_lay RX5 TX5 8 ∈ TT := tt_of (tt_1 (List.mem_of_getElem? (i := 172) (by decide +kernel))) (by decide +kernel)
theorem in_X5 : ∀ w ∈ u_ws RX5 TX5 9, w ∈ TT := by
  show ∀ w ∈ [u_lay RX5 TX5 0, u_lay RX5 TX5 1, u_lay RX5 TX5 2, u_lay RX5 TX5 3, u_lay RX5 TX5 4, u_lay RX5 TX5 5, u_lay RX5 TX5 6, u_lay RX5 TX5 7, u_lay RX5 TX5 8], w ∈ TT
  exact List.forall_mem_cons.mpr ⟨ly_X5_0, List.forall_mem_cons.mpr ⟨ly_X5_1, List.forall_mem_cons.mpr ⟨ly_X5_2, List.forall_mem_cons.mpr ⟨ly_X5_3, List.forall_mem_cons.mpr ⟨ly_X5_4, List.forall_mem_cons.mpr ⟨ly_X5_5, List.forall_mem_cons.mpr ⟨ly_X5_6, List.forall_mem_cons.mpr ⟨ly_X5_7, List.forall_mem_cons.mpr ⟨ly_X5_8, fun _ h => absurd h List.not_mem_nil⟩⟩⟩⟩⟩⟩⟩⟩⟩
theorem ly_X6_0 : u_lay RX6 TX6 0 ∈ TT := tt_of (tt_1 (List.mem_of_getElem? (i := 30) (by decide +kernel))) (by decide +kernel)
theorem ly_X6_1 : u_lay RX6 TX6 1 ∈ TT := tt_of (tt_1 (List.mem_of_getElem? (i := 32) (by decide +kernel))) (by decide +kernel)
theorem in_X6 : ∀ w ∈ u_ws RX6 TX6 2, w ∈ TT := by
  show ∀ w ∈ [u_lay RX6 TX6 0, u_lay RX6 TX6 1], w ∈ TT
  exact List.forall_mem_cons.mpr ⟨ly_X6_0, List.forall_mem_cons.mpr ⟨ly_X6_1, fun _ h => absurd h List.not_mem_nil⟩⟩
theorem ly_X7_0 : u_lay RX7 TX7 0 ∈ TT := tt_of (tt_2 (List.mem_of_getElem? (i := 7) (by decide +kernel))) (by decide +kernel)
theorem ly_X7_1 : u_lay RX7 TX7 1 ∈ TT := tt_of (tt_2 (List.mem_of_getElem? (i := 9) (by decide +kernel))) (by decide +kernel)
theorem ly_X7_2 : u_lay RX7 TX7 2 ∈ TT := tt_of (tt_2 (List.mem_of_getElem? (i := 11) (by decide +kernel))) (by decide +kernel)
theorem ly_X7_3 : u_lay RX7 TX7 3 ∈ TT := tt_of (tt_2 (List.mem_of_getElem? (i := 13) (by decide +kernel))) (by decide +kernel)
theorem ly_X7_4 : u_lay RX7 TX7 4 ∈ TT := tt_of (tt_2 (List.mem_of_getElem? (i := 15) (by decide +kernel))) (by decide +kernel)
theorem ly_X7_5 : u_lay RX7 TX7 5 ∈ TT := tt_of (tt_2 (List.mem_of_getElem? (i := 17) (by decide +kernel))) (by decide +kernel)
theorem in_X7 : ∀ w ∈ u_ws RX7 TX7 6, w ∈ TT := by
  show ∀ w ∈ [u_lay RX7 TX7 0, u_lay RX7 TX7 1, u_lay RX7 TX7 2, u_lay RX7 TX7 3, u_lay RX7 TX7 4, u_lay RX7 TX7 5], w ∈ TT
  exact List.forall_mem_cons.mpr ⟨ly_X7_0, List.forall_mem_cons.mpr ⟨ly_X7_1, List.forall_mem_cons.mpr ⟨ly_X7_2, List.forall_mem_cons.mpr ⟨ly_X7_3, List.forall_mem_cons.mpr ⟨ly_X7_4, List.forall_mem_cons.mpr ⟨ly_X7_5, fun _ h => absurd h List.not_mem_nil⟩⟩⟩⟩⟩⟩
theorem ly_X8_0 : u_lay RX8 TX8 0 ∈ TT := tt_of (tt_3 (List.mem_of_getElem? (i := 179) (by decide +kernel))) (by decide +kernel)
theorem ly_X8_1 : u_lay RX8 TX8 1 ∈ TT := tt_of (tt_3 (List.mem_of_getElem? (i := 181) (by decide +kernel))) (by decide +kernel)
theorem ly_X8_2 : u_lay RX8 TX8 2 ∈ TT := tt_of (tt_3 (List.mem_of_getElem? (i := 183) (by decide +kernel))) (by decide +kernel)
theorem ly_X8_3 : u_lay RX8 TX8 3 ∈ TT := tt_of (tt_3 (List.mem_of_getElem? (i := 185) (by decide +kernel))) (by decide +kernel)
theorem ly_X8_4 : u_lay RX8 TX8 4 ∈ TT := tt_of (tt_3 (List.mem_of_getElem? (i := 187) (by decide +kernel))) (by decide +kernel)
theorem ly_X8_5 : u_lay RX8 TX8 5 ∈ TT := tt_of (tt_3 (List.mem_of_getElem? (i := 189) (by decide +kernel))) (by decide +kernel)
theorem ly_X8_6 : u_lay RX8 TX8 6 ∈ TT := tt_of (tt_3 (List.mem_of_getElem? (i := 191) (by decide +kernel))) (by decide +kernel)
theorem ly_X8_7 : u_lay RX8 TX8 7 ∈ TT := tt_of (tt_3 (List.mem_of_getElem? (i := 193) (by decide +kernel))) (by decide +kernel)
theorem ly_X8_8 : u_lay RX8 TX8 8 ∈ TT := tt_of (tt_3 (List.mem_of_getElem? (i := 195) (by decide +kernel))) (by decide +kernel)
theorem ly_X8_9 : u_lay RX8 TX8 9 ∈ TT := tt_of (tt_3 (List.mem_of_getElem? (i := 197) (by decide +kernel))) (by decide +kernel)
theorem ly_X8_10 : u_lay RX8 TX8 10 ∈ TT := tt_of (tt_3 (List.mem_of_getElem? (i := 199) (by decide +kernel))) (by decide +kernel)
theorem ly_X8_11 : u_lay RX8 TX8 11 ∈ TT := tt_of (tt_3 (List.mem_of_getElem? (i := 201) (by decide +kernel))) (by decide +kernel)
theorem ly_X8_12 : u_lay RX8 TX8 12 ∈ TT := tt_of (tt_3 (List.mem_of_getElem? (i := 203) (by decide +kernel))) (by decide +kernel)
theorem ly_X8_13 : u_lay RX8 TX8 13 ∈ TT := tt_of (tt_3 (List.mem_of_getElem? (i := 205) (by decide +kernel))) (by decide +kernel)
theorem ly_X8_14 : u_lay RX8 TX8 14 ∈ TT := tt_of (tt_3 (List.mem_of_getElem? (i := 207) (by decide +kernel))) (by decide +kernel)
theorem ly_X8_15 : u_lay RX8 TX8 15 ∈ TT := tt_of (tt_3 (List.mem_of_getElem? (i := 209) (by decide +kernel))) (by decide +kernel)
theorem ly_X8_16 : u_lay RX8 TX8 16 ∈ TT := tt_of (tt_3 (List.mem_of_getElem? (i := 211) (by decide +kernel))) (by decide +kernel)
theorem ly_X8_17 : u_lay RX8 TX8 17 ∈ TT := tt_of (tt_3 (List.mem_of_getElem? (i := 213) (by decide +kernel))) (by decide +kernel)
theorem ly_X8_18 : u_lay RX8 TX8 18 ∈ TT := tt_of (tt_3 (List.mem_of_getElem? (i := 215) (by decide +kernel))) (by decide +kernel)
theorem ly_X8_19 : u_lay RX8 TX8 19 ∈ TT := tt_of (tt_3 (List.mem_of_getElem? (i := 217) (by decide +kernel))) (by decide +kernel)
theorem ly_X8_20 : u_lay RX8 TX8 20 ∈ TT := tt_of (tt_3 (List.mem_of_getElem? (i := 219) (by decide +kernel))) (by decide +kernel)
theorem ly_X8_21 : u_lay RX8 TX8 21 ∈ TT := tt_of (tt_3 (List.mem_of_getElem? (i := 221) (by decide +kernel))) (by decide +kernel)
theorem ly_X8_22 : u_lay RX8 TX8 22 ∈ TT := tt_of (tt_3 (List.mem_of_getElem? (i := 223) (by decide +kernel))) (by decide +kernel)
theorem ly_X8_23 : u_lay RX8 TX8 23 ∈ TT := tt_of (tt_3 (List.mem_of_getElem? (i := 225) (by decide +kernel))) (by decide +kernel)
theorem ly_X8_24 : u_lay RX8 TX8 24 ∈ TT := tt_of (tt_3 (List.mem_of_getElem? (i := 227) (by decide +kernel))) (by decide +kernel)
theorem ly_X8_25 : u_lay RX8 TX8 25 ∈ TT := tt_of (tt_3 (List.mem_of_getElem? (i := 229) (by decide +kernel))) (by decide +kernel)
theorem ly_X8_26 : u_lay RX8 TX8 26 ∈ TT := tt_of (tt_3 (List.mem_of_getElem? (i := 231) (by decide +kernel))) (by decide +kernel)
theorem in_X8 : ∀ w ∈ u_ws RX8 TX8 27, w ∈ TT := by
  show ∀ w ∈ [u_lay RX8 TX8 0, u_lay RX8 TX8 1, u_lay RX8 TX8 2, u_lay RX8 TX8 3, u_lay RX8 TX8 4, u_lay RX8 TX8 5, u_lay RX8 TX8 6, u_lay RX8 TX8 7, u_lay RX8 TX8 8, u_lay RX8 TX8 9, u_lay RX8 TX8 10, u_lay RX8 TX8 11, u_lay RX8 TX8 12, u_lay RX8 TX8 13, u_lay RX8 TX8 14, u_lay RX8 TX8 15, u_lay RX8 TX8 16, u_lay RX8 TX8 17, u_lay RX8 TX8 18, u_lay RX8 TX8 19, u_lay RX8 TX8 20, u_lay RX8 TX8 21, u_lay RX8 TX8 22, u_lay RX8 TX8 23, u_lay RX8 TX8 24, u_lay RX8 TX8 25, u_lay RX8 TX8 26], w ∈ TT
  exact List.forall_mem_cons.mpr ⟨ly_X8_0, List.forall_mem_cons.mpr ⟨ly_X8_1, List.forall_mem_cons.mpr ⟨ly_X8_2, List.forall_mem_cons.mpr ⟨ly_X8_3, List.forall_mem_cons.mpr ⟨ly_X8_4, List.forall_mem_cons.mpr ⟨ly_X8_5, List.forall_mem_cons.mpr ⟨ly_X8_6, List.forall_mem_cons.mpr ⟨ly_X8_7, List.forall_mem_cons.mpr ⟨ly_X8_8, List.forall_mem_cons.mpr ⟨ly_X8_9, List.forall_mem_cons.mpr ⟨ly_X8_10, List.forall_mem_cons.mpr ⟨ly_X8_11, List.forall_mem_cons.mpr ⟨ly_X8_12, List.forall_mem_cons.mpr ⟨ly_X8_13, List.forall_mem_cons.mpr ⟨ly_X8_14, List.forall_mem_cons.mpr ⟨ly_X8_15, List.forall_mem_cons.mpr ⟨ly_X8_16, List.forall_mem_cons.mpr ⟨ly_X8_17, List.forall_mem_cons.mpr ⟨ly_X8_18, List.forall_mem_cons.mpr ⟨ly_X8_19, List.forall_mem_cons.mpr ⟨ly_X8_20, List.forall_mem_cons.mpr ⟨ly_X8_21, List.forall_mem_cons.mpr ⟨ly_X8_22, List.forall_mem_cons.mpr ⟨ly_X8_23, List.forall_mem_cons.mpr ⟨ly_X8_24, List.forall_mem_cons.mpr ⟨ly_X8_25, List.forall_mem_cons.mpr ⟨ly_X8_26, fun _ h => absurd h List.not_mem_nil⟩⟩⟩⟩⟩⟩⟩⟩⟩⟩⟩⟩⟩⟩⟩⟩⟩⟩⟩⟩⟩⟩⟩⟩⟩⟩⟩
/-- a field's site: the pool number idx of the class own names field k of the kind ci -/
def XF (own : String) (idx ci k : Nat) (q : vw_C) : Prop := vwCl[ci]? = some q ∧ k < q.2.2 ∧ Cond.fieldLink own idx (q.2.1 k).1 (q.2.1 k).2.1 (q.2.1 k).2.2.1 ∈ TT ∧ ∀ w ∈ u_ws q.1 q.2.1 q.2.2, w ∈ TT
/-- a kind's fields: their types and names -/
def XP (q : vw_C) (ty : Nat → FieldType) : Prop := (∀ k, k < q.2.2 → parseFieldDescriptor (q.2.1 k).2.2.1 = some (ty k)) ∧ ∀ a, a < q.2.2 → ∀ b, b < q.2.2 → a ≠ b → (q.2.1 a).2.1 ≠ (q.2.1 b).2.1
theorem xp_X1 : XP (RX1, TX1, 3) tyX1 := ⟨tyX1_ok, nmX1⟩
theorem xp_X2 : XP (RX2, TX2, 7) tyX2 := ⟨tyX2_ok, nmX2⟩
theorem xp_X3 : XP (RX3, TX3, 3) tyX3 := ⟨tyX3_ok, nmX3⟩
theorem xp_X4 : XP (RX4, TX4, 7) tyX4 := ⟨tyX4_ok, nmX4⟩
theorem xp_X5 : XP (RX5, TX5, 9) tyX5 := ⟨tyX5_ok, nmX5⟩
theorem xp_X6 : XP (RX6, TX6, 2) tyX6 := ⟨tyX6_ok, nmX6⟩
theorem xp_X7 : XP (RX7, TX7, 6) tyX7 := ⟨tyX7_ok, nmX7⟩
theorem xp_X8 : XP (RX8, TX8, 27) tyX8 := ⟨tyX8_ok, nmX8⟩
theorem xf_X6_11 : XF RX6 11 5 0 (RX6, TX6, 2) := ⟨rfl, Nat.le_of_ble_eq_true rfl, tt_of (tt_1 (List.mem_of_getElem? (i := 27) rfl)) rfl, in_X6⟩
theorem xf_X6_15 : XF RX6 15 5 1 (RX6, TX6, 2) := ⟨rfl, Nat.le_of_ble_eq_true rfl, tt_of (tt_1 (List.mem_of_getElem? (i := 28) rfl)) rfl, in_X6⟩
theorem xf_X7_62 : XF RX7 62 5 1 (RX6, TX6, 2) := ⟨rfl, Nat.le_of_ble_eq_true rfl, tt_of (tt_1 (List.mem_of_getElem? (i := 29) rfl)) rfl, in_X6⟩
theorem xf_X2_7 : XF RX2 7 1 0 (RX2, TX2, 7) := ⟨rfl, Nat.le_of_ble_eq_true rfl, tt_of (tt_1 (List.mem_of_getElem? (i := 42) rfl)) rfl, in_X2⟩
theorem xf_X4_36 : XF RX4 36 1 0 (RX2, TX2, 7) := ⟨rfl, Nat.le_of_ble_eq_true rfl, tt_of (tt_1 (List.mem_of_getElem? (i := 43) rfl)) rfl, in_X2⟩
theorem xf_X6_37 : XF RX6 37 1 0 (RX2, TX2, 7) := ⟨rfl, Nat.le_of_ble_eq_true rfl, tt_of (tt_1 (List.mem_of_getElem? (i := 44) rfl)) rfl, in_X2⟩
theorem xf_X7_103 : XF RX7 103 1 0 (RX2, TX2, 7) := ⟨rfl, Nat.le_of_ble_eq_true rfl, tt_of (tt_1 (List.mem_of_getElem? (i := 45) rfl)) rfl, in_X2⟩
theorem xf_X2_13 : XF RX2 13 1 1 (RX2, TX2, 7) := ⟨rfl, Nat.le_of_ble_eq_true rfl, tt_of (tt_1 (List.mem_of_getElem? (i := 46) rfl)) rfl, in_X2⟩
theorem xf_X4_41 : XF RX4 41 1 1 (RX2, TX2, 7) := ⟨rfl, Nat.le_of_ble_eq_true rfl, tt_of (tt_1 (List.mem_of_getElem? (i := 47) rfl)) rfl, in_X2⟩
theorem xf_X6_25 : XF RX6 25 1 1 (RX2, TX2, 7) := ⟨rfl, Nat.le_of_ble_eq_true rfl, tt_of (tt_1 (List.mem_of_getElem? (i := 48) rfl)) rfl, in_X2⟩
theorem xf_X7_106 : XF RX7 106 1 1 (RX2, TX2, 7) := ⟨rfl, Nat.le_of_ble_eq_true rfl, tt_of (tt_1 (List.mem_of_getElem? (i := 49) rfl)) rfl, in_X2⟩
theorem xf_X2_18 : XF RX2 18 1 2 (RX2, TX2, 7) := ⟨rfl, Nat.le_of_ble_eq_true rfl, tt_of (tt_1 (List.mem_of_getElem? (i := 50) rfl)) rfl, in_X2⟩
theorem xf_X6_30 : XF RX6 30 1 2 (RX2, TX2, 7) := ⟨rfl, Nat.le_of_ble_eq_true rfl, tt_of (tt_1 (List.mem_of_getElem? (i := 51) rfl)) rfl, in_X2⟩
theorem xf_X7_99 : XF RX7 99 1 2 (RX2, TX2, 7) := ⟨rfl, Nat.le_of_ble_eq_true rfl, tt_of (tt_1 (List.mem_of_getElem? (i := 52) rfl)) rfl, in_X2⟩
theorem xf_X4_113 : XF RX4 113 1 2 (RX2, TX2, 7) := ⟨rfl, Nat.le_of_ble_eq_true rfl, tt_of (tt_1 (List.mem_of_getElem? (i := 53) rfl)) rfl, in_X2⟩
theorem xf_X2_22 : XF RX2 22 1 3 (RX2, TX2, 7) := ⟨rfl, Nat.le_of_ble_eq_true rfl, tt_of (tt_1 (List.mem_of_getElem? (i := 54) rfl)) rfl, in_X2⟩
theorem xf_X7_76 : XF RX7 76 1 3 (RX2, TX2, 7) := ⟨rfl, Nat.le_of_ble_eq_true rfl, tt_of (tt_1 (List.mem_of_getElem? (i := 55) rfl)) rfl, in_X2⟩
theorem xf_X4_94 : XF RX4 94 1 3 (RX2, TX2, 7) := ⟨rfl, Nat.le_of_ble_eq_true rfl, tt_of (tt_1 (List.mem_of_getElem? (i := 56) rfl)) rfl, in_X2⟩
theorem xf_X5_111 : XF RX5 111 1 3 (RX2, TX2, 7) := ⟨rfl, Nat.le_of_ble_eq_true rfl, tt_of (tt_1 (List.mem_of_getElem? (i := 57) rfl)) rfl, in_X2⟩
theorem xf_X2_26 : XF RX2 26 1 4 (RX2, TX2, 7) := ⟨rfl, Nat.le_of_ble_eq_true rfl, tt_of (tt_1 (List.mem_of_getElem? (i := 58) rfl)) rfl, in_X2⟩
theorem xf_X7_80 : XF RX7 80 1 4 (RX2, TX2, 7) := ⟨rfl, Nat.le_of_ble_eq_true rfl, tt_of (tt_1 (List.mem_of_getElem? (i := 59) rfl)) rfl, in_X2⟩
theorem xf_X4_100 : XF RX4 100 1 4 (RX2, TX2, 7) := ⟨rfl, Nat.le_of_ble_eq_true rfl, tt_of (tt_1 (List.mem_of_getElem? (i := 60) rfl)) rfl, in_X2⟩
theorem xf_X5_106 : XF RX5 106 1 4 (RX2, TX2, 7) := ⟨rfl, Nat.le_of_ble_eq_true rfl, tt_of (tt_1 (List.mem_of_getElem? (i := 61) rfl)) rfl, in_X2⟩
theorem xf_X2_29 : XF RX2 29 1 5 (RX2, TX2, 7) := ⟨rfl, Nat.le_of_ble_eq_true rfl, tt_of (tt_1 (List.mem_of_getElem? (i := 62) rfl)) rfl, in_X2⟩
theorem xf_X4_74 : XF RX4 74 1 5 (RX2, TX2, 7) := ⟨rfl, Nat.le_of_ble_eq_true rfl, tt_of (tt_1 (List.mem_of_getElem? (i := 63) rfl)) rfl, in_X2⟩
theorem xf_X7_169 : XF RX7 169 1 5 (RX2, TX2, 7) := ⟨rfl, Nat.le_of_ble_eq_true rfl, tt_of (tt_1 (List.mem_of_getElem? (i := 64) rfl)) rfl, in_X2⟩
theorem xf_X2_32 : XF RX2 32 1 6 (RX2, TX2, 7) := ⟨rfl, Nat.le_of_ble_eq_true rfl, tt_of (tt_1 (List.mem_of_getElem? (i := 65) rfl)) rfl, in_X2⟩
theorem xf_X4_80 : XF RX4 80 1 6 (RX2, TX2, 7) := ⟨rfl, Nat.le_of_ble_eq_true rfl, tt_of (tt_1 (List.mem_of_getElem? (i := 66) rfl)) rfl, in_X2⟩
theorem xf_X7_172 : XF RX7 172 1 6 (RX2, TX2, 7) := ⟨rfl, Nat.le_of_ble_eq_true rfl, tt_of (tt_1 (List.mem_of_getElem? (i := 67) rfl)) rfl, in_X2⟩
theorem xf_X3_11 : XF RX3 11 2 0 (RX3, TX3, 3) := ⟨rfl, Nat.le_of_ble_eq_true rfl, tt_of (tt_1 (List.mem_of_getElem? (i := 92) rfl)) rfl, in_X3⟩
theorem xf_X3_15 : XF RX3 15 2 1 (RX3, TX3, 3) := ⟨rfl, Nat.le_of_ble_eq_true rfl, tt_of (tt_1 (List.mem_of_getElem? (i := 93) rfl)) rfl, in_X3⟩
theorem xf_X3_19 : XF RX3 19 2 2 (RX3, TX3, 3) := ⟨rfl, Nat.le_of_ble_eq_true rfl, tt_of (tt_1 (List.mem_of_getElem? (i := 94) rfl)) rfl, in_X3⟩
theorem xf_X7_204 : XF RX7 204 2 2 (RX3, TX3, 3) := ⟨rfl, Nat.le_of_ble_eq_true rfl, tt_of (tt_1 (List.mem_of_getElem? (i := 95) rfl)) rfl, in_X3⟩
theorem xf_X4_32 : XF RX4 32 3 0 (RX4, TX4, 7) := ⟨rfl, Nat.le_of_ble_eq_true rfl, tt_of (tt_1 (List.mem_of_getElem? (i := 109) rfl)) rfl, in_X4⟩
theorem xf_X4_7 : XF RX4 7 3 1 (RX4, TX4, 7) := ⟨rfl, Nat.le_of_ble_eq_true rfl, tt_of (tt_1 (List.mem_of_getElem? (i := 110) rfl)) rfl, in_X4⟩
theorem xf_X7_152 : XF RX7 152 3 1 (RX4, TX4, 7) := ⟨rfl, Nat.le_of_ble_eq_true rfl, tt_of (tt_1 (List.mem_of_getElem? (i := 111) rfl)) rfl, in_X4⟩
theorem xf_X4_13 : XF RX4 13 3 2 (RX4, TX4, 7) := ⟨rfl, Nat.le_of_ble_eq_true rfl, tt_of (tt_1 (List.mem_of_getElem? (i := 112) rfl)) rfl, in_X4⟩
theorem xf_X5_99 : XF RX5 99 3 2 (RX4, TX4, 7) := ⟨rfl, Nat.le_of_ble_eq_true rfl, tt_of (tt_1 (List.mem_of_getElem? (i := 113) rfl)) rfl, in_X4⟩
theorem xf_X4_16 : XF RX4 16 3 3 (RX4, TX4, 7) := ⟨rfl, Nat.le_of_ble_eq_true rfl, tt_of (tt_1 (List.mem_of_getElem? (i := 114) rfl)) rfl, in_X4⟩
theorem xf_X5_96 : XF RX5 96 3 3 (RX4, TX4, 7) := ⟨rfl, Nat.le_of_ble_eq_true rfl, tt_of (tt_1 (List.mem_of_getElem? (i := 115) rfl)) rfl, in_X4⟩
theorem xf_X4_19 : XF RX4 19 3 4 (RX4, TX4, 7) := ⟨rfl, Nat.le_of_ble_eq_true rfl, tt_of (tt_1 (List.mem_of_getElem? (i := 116) rfl)) rfl, in_X4⟩
theorem xf_X1_31 : XF RX1 31 3 4 (RX4, TX4, 7) := ⟨rfl, Nat.le_of_ble_eq_true rfl, tt_of (tt_1 (List.mem_of_getElem? (i := 117) rfl)) rfl, in_X4⟩
theorem xf_X7_86 : XF RX7 86 3 4 (RX4, TX4, 7) := ⟨rfl, Nat.le_of_ble_eq_true rfl, tt_of (tt_1 (List.mem_of_getElem? (i := 118) rfl)) rfl, in_X4⟩
theorem xf_X4_25 : XF RX4 25 3 5 (RX4, TX4, 7) := ⟨rfl, Nat.le_of_ble_eq_true rfl, tt_of (tt_1 (List.mem_of_getElem? (i := 119) rfl)) rfl, in_X4⟩
theorem xf_X5_46 : XF RX5 46 3 5 (RX4, TX4, 7) := ⟨rfl, Nat.le_of_ble_eq_true rfl, tt_of (tt_1 (List.mem_of_getElem? (i := 120) rfl)) rfl, in_X4⟩
theorem xf_X7_145 : XF RX7 145 3 5 (RX4, TX4, 7) := ⟨rfl, Nat.le_of_ble_eq_true rfl, tt_of (tt_1 (List.mem_of_getElem? (i := 121) rfl)) rfl, in_X4⟩
theorem xf_X4_29 : XF RX4 29 3 6 (RX4, TX4, 7) := ⟨rfl, Nat.le_of_ble_eq_true rfl, tt_of (tt_1 (List.mem_of_getElem? (i := 122) rfl)) rfl, in_X4⟩
theorem xf_X1_47 : XF RX1 47 3 6 (RX4, TX4, 7) := ⟨rfl, Nat.le_of_ble_eq_true rfl, tt_of (tt_1 (List.mem_of_getElem? (i := 123) rfl)) rfl, in_X4⟩
theorem xf_X7_163 : XF RX7 163 3 6 (RX4, TX4, 7) := ⟨rfl, Nat.le_of_ble_eq_true rfl, tt_of (tt_1 (List.mem_of_getElem? (i := 124) rfl)) rfl, in_X4⟩
theorem xf_X5_38 : XF RX5 38 4 0 (RX5, TX5, 9) := ⟨rfl, Nat.le_of_ble_eq_true rfl, tt_of (tt_1 (List.mem_of_getElem? (i := 147) rfl)) rfl, in_X5⟩
theorem xf_X5_11 : XF RX5 11 4 1 (RX5, TX5, 9) := ⟨rfl, Nat.le_of_ble_eq_true rfl, tt_of (tt_1 (List.mem_of_getElem? (i := 148) rfl)) rfl, in_X5⟩
theorem xf_X5_15 : XF RX5 15 4 2 (RX5, TX5, 9) := ⟨rfl, Nat.le_of_ble_eq_true rfl, tt_of (tt_1 (List.mem_of_getElem? (i := 149) rfl)) rfl, in_X5⟩
theorem xf_X5_19 : XF RX5 19 4 3 (RX5, TX5, 9) := ⟨rfl, Nat.le_of_ble_eq_true rfl, tt_of (tt_1 (List.mem_of_getElem? (i := 150) rfl)) rfl, in_X5⟩
theorem xf_X5_22 : XF RX5 22 4 4 (RX5, TX5, 9) := ⟨rfl, Nat.le_of_ble_eq_true rfl, tt_of (tt_1 (List.mem_of_getElem? (i := 151) rfl)) rfl, in_X5⟩
theorem xf_X5_25 : XF RX5 25 4 5 (RX5, TX5, 9) := ⟨rfl, Nat.le_of_ble_eq_true rfl, tt_of (tt_1 (List.mem_of_getElem? (i := 152) rfl)) rfl, in_X5⟩
theorem xf_X5_28 : XF RX5 28 4 6 (RX5, TX5, 9) := ⟨rfl, Nat.le_of_ble_eq_true rfl, tt_of (tt_1 (List.mem_of_getElem? (i := 153) rfl)) rfl, in_X5⟩
theorem xf_X5_31 : XF RX5 31 4 7 (RX5, TX5, 9) := ⟨rfl, Nat.le_of_ble_eq_true rfl, tt_of (tt_1 (List.mem_of_getElem? (i := 154) rfl)) rfl, in_X5⟩
theorem xf_X5_35 : XF RX5 35 4 8 (RX5, TX5, 9) := ⟨rfl, Nat.le_of_ble_eq_true rfl, tt_of (tt_1 (List.mem_of_getElem? (i := 155) rfl)) rfl, in_X5⟩
theorem xf_X1_18 : XF RX1 18 0 0 (RX1, TX1, 3) := ⟨rfl, Nat.le_of_ble_eq_true rfl, tt_of (tt_1 (List.mem_of_getElem? (i := 181) rfl)) rfl, in_X1⟩
theorem xf_X1_9 : XF RX1 9 0 1 (RX1, TX1, 3) := ⟨rfl, Nat.le_of_ble_eq_true rfl, tt_of (tt_1 (List.mem_of_getElem? (i := 182) rfl)) rfl, in_X1⟩
theorem xf_X1_15 : XF RX1 15 0 2 (RX1, TX1, 3) := ⟨rfl, Nat.le_of_ble_eq_true rfl, tt_of (tt_1 (List.mem_of_getElem? (i := 183) rfl)) rfl, in_X1⟩
theorem xf_X7_198 : XF RX7 198 0 2 (RX1, TX1, 3) := ⟨rfl, Nat.le_of_ble_eq_true rfl, tt_of (tt_1 (List.mem_of_getElem? (i := 184) rfl)) rfl, in_X1⟩
theorem xf_X7_10 : XF RX7 10 6 0 (RX7, TX7, 6) := ⟨rfl, Nat.le_of_ble_eq_true rfl, tt_of (tt_2 (List.mem_of_getElem? (i := 1) rfl)) rfl, in_X7⟩
theorem xf_X7_19 : XF RX7 19 6 1 (RX7, TX7, 6) := ⟨rfl, Nat.le_of_ble_eq_true rfl, tt_of (tt_2 (List.mem_of_getElem? (i := 2) rfl)) rfl, in_X7⟩
theorem xf_X7_26 : XF RX7 26 6 2 (RX7, TX7, 6) := ⟨rfl, Nat.le_of_ble_eq_true rfl, tt_of (tt_2 (List.mem_of_getElem? (i := 3) rfl)) rfl, in_X7⟩
theorem xf_X7_35 : XF RX7 35 6 3 (RX7, TX7, 6) := ⟨rfl, Nat.le_of_ble_eq_true rfl, tt_of (tt_2 (List.mem_of_getElem? (i := 4) rfl)) rfl, in_X7⟩
theorem xf_X7_44 : XF RX7 44 6 4 (RX7, TX7, 6) := ⟨rfl, Nat.le_of_ble_eq_true rfl, tt_of (tt_2 (List.mem_of_getElem? (i := 5) rfl)) rfl, in_X7⟩
theorem xf_X7_51 : XF RX7 51 6 5 (RX7, TX7, 6) := ⟨rfl, Nat.le_of_ble_eq_true rfl, tt_of (tt_2 (List.mem_of_getElem? (i := 6) rfl)) rfl, in_X7⟩
theorem xf_X8_7 : XF RX8 7 7 0 (RX8, TX8, 27) := ⟨rfl, Nat.le_of_ble_eq_true rfl, tt_of (tt_3 (List.mem_of_getElem? (i := 152) rfl)) rfl, in_X8⟩
theorem xf_X8_13 : XF RX8 13 7 1 (RX8, TX8, 27) := ⟨rfl, Nat.le_of_ble_eq_true rfl, tt_of (tt_3 (List.mem_of_getElem? (i := 153) rfl)) rfl, in_X8⟩
theorem xf_X8_69 : XF RX8 69 7 2 (RX8, TX8, 27) := ⟨rfl, Nat.le_of_ble_eq_true rfl, tt_of (tt_3 (List.mem_of_getElem? (i := 154) rfl)) rfl, in_X8⟩
theorem xf_X8_16 : XF RX8 16 7 3 (RX8, TX8, 27) := ⟨rfl, Nat.le_of_ble_eq_true rfl, tt_of (tt_3 (List.mem_of_getElem? (i := 155) rfl)) rfl, in_X8⟩
theorem xf_X8_76 : XF RX8 76 7 4 (RX8, TX8, 27) := ⟨rfl, Nat.le_of_ble_eq_true rfl, tt_of (tt_3 (List.mem_of_getElem? (i := 156) rfl)) rfl, in_X8⟩
theorem xf_X8_79 : XF RX8 79 7 5 (RX8, TX8, 27) := ⟨rfl, Nat.le_of_ble_eq_true rfl, tt_of (tt_3 (List.mem_of_getElem? (i := 157) rfl)) rfl, in_X8⟩
theorem xf_X8_82 : XF RX8 82 7 6 (RX8, TX8, 27) := ⟨rfl, Nat.le_of_ble_eq_true rfl, tt_of (tt_3 (List.mem_of_getElem? (i := 158) rfl)) rfl, in_X8⟩
theorem xf_X8_19 : XF RX8 19 7 7 (RX8, TX8, 27) := ⟨rfl, Nat.le_of_ble_eq_true rfl, tt_of (tt_3 (List.mem_of_getElem? (i := 159) rfl)) rfl, in_X8⟩
theorem xf_X8_125 : XF RX8 125 7 8 (RX8, TX8, 27) := ⟨rfl, Nat.le_of_ble_eq_true rfl, tt_of (tt_3 (List.mem_of_getElem? (i := 160) rfl)) rfl, in_X8⟩
theorem xf_X8_119 : XF RX8 119 7 9 (RX8, TX8, 27) := ⟨rfl, Nat.le_of_ble_eq_true rfl, tt_of (tt_3 (List.mem_of_getElem? (i := 161) rfl)) rfl, in_X8⟩
theorem xf_X8_122 : XF RX8 122 7 10 (RX8, TX8, 27) := ⟨rfl, Nat.le_of_ble_eq_true rfl, tt_of (tt_3 (List.mem_of_getElem? (i := 162) rfl)) rfl, in_X8⟩
theorem xf_X8_116 : XF RX8 116 7 11 (RX8, TX8, 27) := ⟨rfl, Nat.le_of_ble_eq_true rfl, tt_of (tt_3 (List.mem_of_getElem? (i := 163) rfl)) rfl, in_X8⟩
theorem xf_X8_22 : XF RX8 22 7 12 (RX8, TX8, 27) := ⟨rfl, Nat.le_of_ble_eq_true rfl, tt_of (tt_3 (List.mem_of_getElem? (i := 164) rfl)) rfl, in_X8⟩
theorem xf_X8_92 : XF RX8 92 7 13 (RX8, TX8, 27) := ⟨rfl, Nat.le_of_ble_eq_true rfl, tt_of (tt_3 (List.mem_of_getElem? (i := 165) rfl)) rfl, in_X8⟩
theorem xf_X8_25 : XF RX8 25 7 14 (RX8, TX8, 27) := ⟨rfl, Nat.le_of_ble_eq_true rfl, tt_of (tt_3 (List.mem_of_getElem? (i := 166) rfl)) rfl, in_X8⟩
theorem xf_X8_28 : XF RX8 28 7 15 (RX8, TX8, 27) := ⟨rfl, Nat.le_of_ble_eq_true rfl, tt_of (tt_3 (List.mem_of_getElem? (i := 167) rfl)) rfl, in_X8⟩
theorem xf_X8_31 : XF RX8 31 7 16 (RX8, TX8, 27) := ⟨rfl, Nat.le_of_ble_eq_true rfl, tt_of (tt_3 (List.mem_of_getElem? (i := 168) rfl)) rfl, in_X8⟩
theorem xf_X8_34 : XF RX8 34 7 17 (RX8, TX8, 27) := ⟨rfl, Nat.le_of_ble_eq_true rfl, tt_of (tt_3 (List.mem_of_getElem? (i := 169) rfl)) rfl, in_X8⟩
theorem xf_X8_38 : XF RX8 38 7 18 (RX8, TX8, 27) := ⟨rfl, Nat.le_of_ble_eq_true rfl, tt_of (tt_3 (List.mem_of_getElem? (i := 170) rfl)) rfl, in_X8⟩
theorem xf_X8_41 : XF RX8 41 7 19 (RX8, TX8, 27) := ⟨rfl, Nat.le_of_ble_eq_true rfl, tt_of (tt_3 (List.mem_of_getElem? (i := 171) rfl)) rfl, in_X8⟩
theorem xf_X8_44 : XF RX8 44 7 20 (RX8, TX8, 27) := ⟨rfl, Nat.le_of_ble_eq_true rfl, tt_of (tt_3 (List.mem_of_getElem? (i := 172) rfl)) rfl, in_X8⟩
theorem xf_X8_47 : XF RX8 47 7 21 (RX8, TX8, 27) := ⟨rfl, Nat.le_of_ble_eq_true rfl, tt_of (tt_3 (List.mem_of_getElem? (i := 173) rfl)) rfl, in_X8⟩
theorem xf_X8_50 : XF RX8 50 7 22 (RX8, TX8, 27) := ⟨rfl, Nat.le_of_ble_eq_true rfl, tt_of (tt_3 (List.mem_of_getElem? (i := 174) rfl)) rfl, in_X8⟩
theorem xf_X8_53 : XF RX8 53 7 23 (RX8, TX8, 27) := ⟨rfl, Nat.le_of_ble_eq_true rfl, tt_of (tt_3 (List.mem_of_getElem? (i := 175) rfl)) rfl, in_X8⟩
theorem xf_X8_56 : XF RX8 56 7 24 (RX8, TX8, 27) := ⟨rfl, Nat.le_of_ble_eq_true rfl, tt_of (tt_3 (List.mem_of_getElem? (i := 176) rfl)) rfl, in_X8⟩
theorem xf_X8_59 : XF RX8 59 7 25 (RX8, TX8, 27) := ⟨rfl, Nat.le_of_ble_eq_true rfl, tt_of (tt_3 (List.mem_of_getElem? (i := 177) rfl)) rfl, in_X8⟩
theorem xf_X8_62 : XF RX8 62 7 26 (RX8, TX8, 27) := ⟨rfl, Nat.le_of_ble_eq_true rfl, tt_of (tt_3 (List.mem_of_getElem? (i := 178) rfl)) rfl, in_X8⟩
/-- a method of an object, one of a class -/
def XV (y : MethodName) (bytes : ByteArray) (maxL : Nat) (ret : Option FieldType) (n : Nat) : Prop := Cond.instanceMethod y ∈ TT ∧ Cond.selects y.cls y y ∈ TT ∧ Cond.initialized y.cls ∈ TT ∧ Cond.code y bytes maxL ret ∈ TT ∧ (y.cls ≠ "java/lang/invoke/MethodHandle" ∧ y.cls ≠ "java/lang/invoke/VarHandle" ∧ (parseMethodDescriptor y.desc).map (fun d => d.parameters.length) = some n)
def XS (y : MethodName) (bytes : ByteArray) (maxL : Nat) (ret : Option FieldType) (n : Nat) : Prop := Cond.static y ∈ TT ∧ Cond.initialized y.cls ∈ TT ∧ Cond.code y bytes maxL ret ∈ TT ∧ (y.cls ≠ "java/lang/invoke/MethodHandle" ∧ y.cls ≠ "java/lang/invoke/VarHandle" ∧ (parseMethodDescriptor y.desc).map (fun d => d.parameters.length) = some n)
def XI (y : MethodName) (bytes : ByteArray) (maxL n : Nat) : Prop := y.name = "<init>" ∧ Cond.instanceMethod y ∈ TT ∧ Cond.initialized y.cls ∈ TT ∧ Cond.code y bytes maxL none ∈ TT ∧ (y.cls ≠ "java/lang/invoke/MethodHandle" ∧ y.cls ≠ "java/lang/invoke/VarHandle" ∧ (parseMethodDescriptor y.desc).map (fun d => d.parameters.length) = some n)
theorem xs_X0_number : XS yX0_number cX0_number 2 (some .int) 2 := ⟨tt_of (tt_1 (List.mem_of_getElem? (i := 223) rfl)) rfl, wi_X0, tt_of (tt_1 (List.mem_of_getElem? (i := 224) rfl)) rfl, ⟨by decide +kernel, by decide +kernel, by decide +kernel⟩⟩
theorem xs_X0_only : XS yX0_only cX0_only 2 (some .long) 2 := ⟨tt_of (tt_1 (List.mem_of_getElem? (i := 220) rfl)) rfl, wi_X0, tt_of (tt_1 (List.mem_of_getElem? (i := 221) rfl)) rfl, ⟨by decide +kernel, by decide +kernel, by decide +kernel⟩⟩
theorem xs_X0_inRow : XS yX0_inRow cX0_inRow 1 (some .long) 1 := ⟨tt_of (tt_2 (List.mem_of_getElem? (i := 234) rfl)) rfl, wi_X0, tt_of (tt_2 (List.mem_of_getElem? (i := 235) rfl)) rfl, ⟨by decide +kernel, by decide +kernel, by decide +kernel⟩⟩
theorem xs_X0_inColumn : XS yX0_inColumn cX0_inColumn 1 (some .long) 1 := ⟨tt_of (tt_2 (List.mem_of_getElem? (i := 239) rfl)) rfl, wi_X0, tt_of (tt_3 (List.mem_of_getElem? (i := 0) rfl)) rfl, ⟨by decide +kernel, by decide +kernel, by decide +kernel⟩⟩
theorem xs_X0_block : XS yX0_block cX0_block 9 (some .long) 4 := ⟨tt_of (tt_1 (List.mem_of_getElem? (i := 197) rfl)) rfl, wi_X0, tt_of (tt_1 (List.mem_of_getElem? (i := 198) rfl)) rfl, ⟨by decide +kernel, by decide +kernel, by decide +kernel⟩⟩
theorem xs_X0_first : XS yX0_first cX0_first 2 (some .long) 1 := ⟨tt_of (tt_1 (List.mem_of_getElem? (i := 227) rfl)) rfl, wi_X0, tt_of (tt_1 (List.mem_of_getElem? (i := 228) rfl)) rfl, ⟨by decide +kernel, by decide +kernel, by decide +kernel⟩⟩
theorem xs_X0_numberOfFirst : XS yX0_numberOfFirst cX0_numberOfFirst 2 (some .int) 1 := ⟨tt_of (tt_3 (List.mem_of_getElem? (i := 69) rfl)) rfl, wi_X0, tt_of (tt_3 (List.mem_of_getElem? (i := 70) rfl)) rfl, ⟨by decide +kernel, by decide +kernel, by decide +kernel⟩⟩
theorem xs_X0_pairsRight : XS yX0_pairsRight cX0_pairsRight 2 (some .long) 1 := ⟨tt_of (tt_2 (List.mem_of_getElem? (i := 125) rfl)) rfl, wi_X0, tt_of (tt_2 (List.mem_of_getElem? (i := 126) rfl)) rfl, ⟨by decide +kernel, by decide +kernel, by decide +kernel⟩⟩
theorem xs_X0_pairsBelow : XS yX0_pairsBelow cX0_pairsBelow 2 (some .long) 1 := ⟨tt_of (tt_2 (List.mem_of_getElem? (i := 133) rfl)) rfl, wi_X0, tt_of (tt_2 (List.mem_of_getElem? (i := 134) rfl)) rfl, ⟨by decide +kernel, by decide +kernel, by decide +kernel⟩⟩
theorem xs_X0_countPairs : XS yX0_countPairs cX0_countPairs 2 (some .int) 1 := ⟨tt_of (tt_2 (List.mem_of_getElem? (i := 209) rfl)) rfl, wi_X0, tt_of (tt_2 (List.mem_of_getElem? (i := 210) rfl)) rfl, ⟨by decide +kernel, by decide +kernel, by decide +kernel⟩⟩
theorem xs_X0_beside : XS yX0_beside cX0_beside 2 (some .long) 1 := ⟨tt_of (tt_1 (List.mem_of_getElem? (i := 239) rfl)) rfl, wi_X0, tt_of (tt_2 (List.mem_of_getElem? (i := 0) rfl)) rfl, ⟨by decide +kernel, by decide +kernel, by decide +kernel⟩⟩
theorem xs_X0_countInnerCorners : XS yX0_countInnerCorners cX0_countInnerCorners 12 (some .int) 1 := ⟨tt_of (tt_2 (List.mem_of_getElem? (i := 166) rfl)) rfl, wi_X0, tt_of (tt_2 (List.mem_of_getElem? (i := 167) rfl)) rfl, ⟨by decide +kernel, by decide +kernel, by decide +kernel⟩⟩
theorem xs_X0_countHoles : XS yX0_countHoles cX0_countHoles 12 (some .int) 2 := ⟨tt_of (tt_2 (List.mem_of_getElem? (i := 174) rfl)) rfl, wi_X0, tt_of (tt_2 (List.mem_of_getElem? (i := 175) rfl)) rfl, ⟨by decide +kernel, by decide +kernel, by decide +kernel⟩⟩
theorem xs_X0_connected : XS yX0_connected cX0_connected 11 (some .long) 2 := ⟨tt_of (tt_2 (List.mem_of_getElem? (i := 178) rfl)) rfl, wi_X0, tt_of (tt_2 (List.mem_of_getElem? (i := 179) rfl)) rfl, ⟨by decide +kernel, by decide +kernel, by decide +kernel⟩⟩
theorem xi_X1_init : XI yX1_init cX1_init 2 1 := ⟨rfl, tt_of (tt_1 (List.mem_of_getElem? (i := 178) rfl)) rfl, wi_X1, tt_of (tt_1 (List.mem_of_getElem? (i := 179) rfl)) rfl, ⟨by decide +kernel, by decide +kernel, by decide +kernel⟩⟩
theorem xv_X1_hasOrder : XV yX1_hasOrder cX1_hasOrder 2 (some .boolean) 1 := ⟨tt_of (tt_3 (List.mem_of_getElem? (i := 76) rfl)) rfl, tt_of (tt_3 (List.mem_of_getElem? (i := 77) rfl)) rfl, wi_X1, tt_of (tt_3 (List.mem_of_getElem? (i := 78) rfl)) rfl, ⟨by decide +kernel, by decide +kernel, by decide +kernel⟩⟩
theorem xv_X1_paint : XV yX1_paint cX1_paint 6 (some .int) 1 := ⟨tt_of (tt_3 (List.mem_of_getElem? (i := 80) rfl)) rfl, tt_of (tt_3 (List.mem_of_getElem? (i := 81) rfl)) rfl, wi_X1, tt_of (tt_3 (List.mem_of_getElem? (i := 82) rfl)) rfl, ⟨by decide +kernel, by decide +kernel, by decide +kernel⟩⟩
theorem xv_X1_smallestFree : XV yX1_smallestFree cX1_smallestFree 6 (some .int) 1 := ⟨tt_of (tt_3 (List.mem_of_getElem? (i := 111) rfl)) rfl, tt_of (tt_s 16 rfl) rfl, wi_X1, tt_of (tt_3 (List.mem_of_getElem? (i := 112) rfl)) rfl, ⟨by decide +kernel, by decide +kernel, by decide +kernel⟩⟩
theorem xv_X1_arrangeByNumber : XV yX1_arrangeByNumber cX1_arrangeByNumber 2 none 0 := ⟨tt_of (tt_3 (List.mem_of_getElem? (i := 85) rfl)) rfl, tt_of (tt_s 11 rfl) rfl, wi_X1, tt_of (tt_3 (List.mem_of_getElem? (i := 86) rfl)) rfl, ⟨by decide +kernel, by decide +kernel, by decide +kernel⟩⟩
theorem xv_X1_arrangeByNeighbours : XV yX1_arrangeByNeighbours cX1_arrangeByNeighbours 4 none 0 := ⟨tt_of (tt_3 (List.mem_of_getElem? (i := 89) rfl)) rfl, tt_of (tt_s 12 rfl) rfl, wi_X1, tt_of (tt_3 (List.mem_of_getElem? (i := 90) rfl)) rfl, ⟨by decide +kernel, by decide +kernel, by decide +kernel⟩⟩
theorem xv_X1_arrangeByRemoval : XV yX1_arrangeByRemoval cX1_arrangeByRemoval 4 none 0 := ⟨tt_of (tt_3 (List.mem_of_getElem? (i := 103) rfl)) rfl, tt_of (tt_s 14 rfl) rfl, wi_X1, tt_of (tt_3 (List.mem_of_getElem? (i := 104) rfl)) rfl, ⟨by decide +kernel, by decide +kernel, by decide +kernel⟩⟩
theorem xv_X1_mostNeighbours : XV yX1_mostNeighbours cX1_mostNeighbours 7 (some .int) 1 := ⟨tt_of (tt_3 (List.mem_of_getElem? (i := 97) rfl)) rfl, tt_of (tt_s 13 rfl) rfl, wi_X1, tt_of (tt_3 (List.mem_of_getElem? (i := 98) rfl)) rfl, ⟨by decide +kernel, by decide +kernel, by decide +kernel⟩⟩
theorem xv_X1_fewestNeighboursAmong : XV yX1_fewestNeighboursAmong cX1_fewestNeighboursAmong 7 (some .int) 1 := ⟨tt_of (tt_3 (List.mem_of_getElem? (i := 107) rfl)) rfl, tt_of (tt_s 15 rfl) rfl, wi_X1, tt_of (tt_3 (List.mem_of_getElem? (i := 108) rfl)) rfl, ⟨by decide +kernel, by decide +kernel, by decide +kernel⟩⟩
theorem xi_X2_init : XI yX2_init cX2_init 1 0 := ⟨rfl, tt_of (tt_1 (List.mem_of_getElem? (i := 39) rfl)) rfl, wi_X2, tt_of (tt_1 (List.mem_of_getElem? (i := 40) rfl)) rfl, ⟨by decide +kernel, by decide +kernel, by decide +kernel⟩⟩
theorem xv_X2_copyFrom : XV yX2_copyFrom cX2_copyFrom 2 none 1 := ⟨tt_of (tt_2 (List.mem_of_getElem? (i := 48) rfl)) rfl, tt_of (tt_2 (List.mem_of_getElem? (i := 49) rfl)) rfl, wi_X2, tt_of (tt_2 (List.mem_of_getElem? (i := 50) rfl)) rfl, ⟨by decide +kernel, by decide +kernel, by decide +kernel⟩⟩
theorem xv_X2_hasCell : XV yX2_hasCell cX2_hasCell 3 (some .boolean) 2 := ⟨tt_of (tt_1 (List.mem_of_getElem? (i := 212) rfl)) rfl, tt_of (tt_1 (List.mem_of_getElem? (i := 213) rfl)) rfl, wi_X2, tt_of (tt_1 (List.mem_of_getElem? (i := 214) rfl)) rfl, ⟨by decide +kernel, by decide +kernel, by decide +kernel⟩⟩
theorem xv_X2_hasPair : XV yX2_hasPair cX2_hasPair 4 (some .boolean) 3 := ⟨tt_of (tt_1 (List.mem_of_getElem? (i := 208) rfl)) rfl, tt_of (tt_1 (List.mem_of_getElem? (i := 209) rfl)) rfl, wi_X2, tt_of (tt_1 (List.mem_of_getElem? (i := 210) rfl)) rfl, ⟨by decide +kernel, by decide +kernel, by decide +kernel⟩⟩
theorem xv_X2_hasCut : XV yX2_hasCut cX2_hasCut 6 (some .boolean) 3 := ⟨tt_of (tt_1 (List.mem_of_getElem? (i := 216) rfl)) rfl, tt_of (tt_1 (List.mem_of_getElem? (i := 217) rfl)) rfl, wi_X2, tt_of (tt_1 (List.mem_of_getElem? (i := 218) rfl)) rfl, ⟨by decide +kernel, by decide +kernel, by decide +kernel⟩⟩
theorem xv_X2_flip : XV yX2_flip cX2_flip 4 none 3 := ⟨tt_of (tt_2 (List.mem_of_getElem? (i := 99) rfl)) rfl, tt_of (tt_2 (List.mem_of_getElem? (i := 100) rfl)) rfl, wi_X2, tt_of (tt_2 (List.mem_of_getElem? (i := 101) rfl)) rfl, ⟨by decide +kernel, by decide +kernel, by decide +kernel⟩⟩
theorem xv_X2_countCuts : XV yX2_countCuts cX2_countCuts 1 (some .int) 0 := ⟨tt_of (tt_2 (List.mem_of_getElem? (i := 103) rfl)) rfl, tt_of (tt_2 (List.mem_of_getElem? (i := 104) rfl)) rfl, wi_X2, tt_of (tt_2 (List.mem_of_getElem? (i := 105) rfl)) rfl, ⟨by decide +kernel, by decide +kernel, by decide +kernel⟩⟩
theorem xv_X2_isJoined : XV yX2_isJoined cX2_isJoined 5 (some .boolean) 3 := ⟨tt_of (tt_1 (List.mem_of_getElem? (i := 204) rfl)) rfl, tt_of (tt_1 (List.mem_of_getElem? (i := 205) rfl)) rfl, wi_X2, tt_of (tt_1 (List.mem_of_getElem? (i := 206) rfl)) rfl, ⟨by decide +kernel, by decide +kernel, by decide +kernel⟩⟩
theorem xv_X2_joined : XV yX2_joined cX2_joined 6 (some .long) 1 := ⟨tt_of (tt_1 (List.mem_of_getElem? (i := 200) rfl)) rfl, tt_of (tt_1 (List.mem_of_getElem? (i := 201) rfl)) rfl, wi_X2, tt_of (tt_1 (List.mem_of_getElem? (i := 202) rfl)) rfl, ⟨by decide +kernel, by decide +kernel, by decide +kernel⟩⟩
theorem xi_X3_init : XI yX3_init cX3_init 2 0 := ⟨rfl, tt_of (tt_1 (List.mem_of_getElem? (i := 86) rfl)) rfl, wi_X3, tt_of (tt_1 (List.mem_of_getElem? (i := 87) rfl)) rfl, ⟨by decide +kernel, by decide +kernel, by decide +kernel⟩⟩
theorem xv_X3_remember : XV yX3_remember cX3_remember 2 none 1 := ⟨tt_of (tt_2 (List.mem_of_getElem? (i := 44) rfl)) rfl, tt_of (tt_2 (List.mem_of_getElem? (i := 45) rfl)) rfl, wi_X3, tt_of (tt_2 (List.mem_of_getElem? (i := 46) rfl)) rfl, ⟨by decide +kernel, by decide +kernel, by decide +kernel⟩⟩
theorem xv_X3_restore : XV yX3_restore cX3_restore 2 none 1 := ⟨tt_of (tt_3 (List.mem_of_getElem? (i := 143) rfl)) rfl, tt_of (tt_3 (List.mem_of_getElem? (i := 144) rfl)) rfl, wi_X3, tt_of (tt_3 (List.mem_of_getElem? (i := 145) rfl)) rfl, ⟨by decide +kernel, by decide +kernel, by decide +kernel⟩⟩
theorem xi_X4_init : XI yX4_init cX4_init 2 1 := ⟨rfl, tt_of (tt_1 (List.mem_of_getElem? (i := 106) rfl)) rfl, wi_X4, tt_of (tt_1 (List.mem_of_getElem? (i := 107) rfl)) rfl, ⟨by decide +kernel, by decide +kernel, by decide +kernel⟩⟩
theorem xv_X4_find : XV yX4_find cX4_find 4 none 0 := ⟨tt_of (tt_1 (List.mem_of_getElem? (i := 193) rfl)) rfl, tt_of (tt_1 (List.mem_of_getElem? (i := 194) rfl)) rfl, wi_X4, tt_of (tt_1 (List.mem_of_getElem? (i := 195) rfl)) rfl, ⟨by decide +kernel, by decide +kernel, by decide +kernel⟩⟩
theorem xv_X4_fragment : XV yX4_fragment cX4_fragment 10 (some .long) 2 := ⟨tt_of (tt_1 (List.mem_of_getElem? (i := 231) rfl)) rfl, tt_of (tt_s 0 rfl) rfl, wi_X4, tt_of (tt_1 (List.mem_of_getElem? (i := 232) rfl)) rfl, ⟨by decide +kernel, by decide +kernel, by decide +kernel⟩⟩
theorem xv_X4_touching : XV yX4_touching cX4_touching 7 (some .long) 1 := ⟨tt_of (tt_1 (List.mem_of_getElem? (i := 236) rfl)) rfl, tt_of (tt_s 1 rfl) rfl, wi_X4, tt_of (tt_1 (List.mem_of_getElem? (i := 237) rfl)) rfl, ⟨by decide +kernel, by decide +kernel, by decide +kernel⟩⟩
theorem xv_X4_hasPane : XV yX4_hasPane cX4_hasPane 2 (some .boolean) 1 := ⟨tt_of (tt_2 (List.mem_of_getElem? (i := 158) rfl)) rfl, tt_of (tt_2 (List.mem_of_getElem? (i := 159) rfl)) rfl, wi_X4, tt_of (tt_2 (List.mem_of_getElem? (i := 160) rfl)) rfl, ⟨by decide +kernel, by decide +kernel, by decide +kernel⟩⟩
theorem xv_X4_everyPane : XV yX4_everyPane cX4_everyPane 1 (some .long) 0 := ⟨tt_of (tt_3 (List.mem_of_getElem? (i := 92) rfl)) rfl, tt_of (tt_3 (List.mem_of_getElem? (i := 93) rfl)) rfl, wi_X4, tt_of (tt_3 (List.mem_of_getElem? (i := 94) rfl)) rfl, ⟨by decide +kernel, by decide +kernel, by decide +kernel⟩⟩
theorem xv_X4_numberOf : XV yX4_numberOf cX4_numberOf 5 (some .int) 1 := ⟨tt_of (tt_2 (List.mem_of_getElem? (i := 150) rfl)) rfl, tt_of (tt_2 (List.mem_of_getElem? (i := 151) rfl)) rfl, wi_X4, tt_of (tt_2 (List.mem_of_getElem? (i := 152) rfl)) rfl, ⟨by decide +kernel, by decide +kernel, by decide +kernel⟩⟩
theorem xv_X4_isEasy : XV yX4_isEasy cX4_isEasy 3 (some .boolean) 1 := ⟨tt_of (tt_2 (List.mem_of_getElem? (i := 186) rfl)) rfl, tt_of (tt_2 (List.mem_of_getElem? (i := 187) rfl)) rfl, wi_X4, tt_of (tt_2 (List.mem_of_getElem? (i := 188) rfl)) rfl, ⟨by decide +kernel, by decide +kernel, by decide +kernel⟩⟩
theorem xv_X4_countEasyFragments : XV yX4_countEasyFragments cX4_countEasyFragments 9 (some .int) 1 := ⟨tt_of (tt_3 (List.mem_of_getElem? (i := 14) rfl)) rfl, tt_of (tt_3 (List.mem_of_getElem? (i := 15) rfl)) rfl, wi_X4, tt_of (tt_3 (List.mem_of_getElem? (i := 16) rfl)) rfl, ⟨by decide +kernel, by decide +kernel, by decide +kernel⟩⟩
theorem xv_X4_looseRight : XV yX4_looseRight cX4_looseRight 4 (some .long) 0 := ⟨tt_of (tt_2 (List.mem_of_getElem? (i := 121) rfl)) rfl, tt_of (tt_2 (List.mem_of_getElem? (i := 122) rfl)) rfl, wi_X4, tt_of (tt_2 (List.mem_of_getElem? (i := 123) rfl)) rfl, ⟨by decide +kernel, by decide +kernel, by decide +kernel⟩⟩
theorem xv_X4_looseBelow : XV yX4_looseBelow cX4_looseBelow 4 (some .long) 0 := ⟨tt_of (tt_2 (List.mem_of_getElem? (i := 129) rfl)) rfl, tt_of (tt_2 (List.mem_of_getElem? (i := 130) rfl)) rfl, wi_X4, tt_of (tt_2 (List.mem_of_getElem? (i := 131) rfl)) rfl, ⟨by decide +kernel, by decide +kernel, by decide +kernel⟩⟩
theorem xv_X4_measureLead : XV yX4_measureLead cX4_measureLead 3 (some .int) 0 := ⟨tt_of (tt_2 (List.mem_of_getElem? (i := 205) rfl)) rfl, tt_of (tt_2 (List.mem_of_getElem? (i := 206) rfl)) rfl, wi_X4, tt_of (tt_2 (List.mem_of_getElem? (i := 207) rfl)) rfl, ⟨by decide +kernel, by decide +kernel, by decide +kernel⟩⟩
theorem xv_X4_countEqualNeighbours : XV yX4_countEqualNeighbours cX4_countEqualNeighbours 5 (some .int) 0 := ⟨tt_of (tt_3 (List.mem_of_getElem? (i := 61) rfl)) rfl, tt_of (tt_3 (List.mem_of_getElem? (i := 62) rfl)) rfl, wi_X4, tt_of (tt_3 (List.mem_of_getElem? (i := 63) rfl)) rfl, ⟨by decide +kernel, by decide +kernel, by decide +kernel⟩⟩
theorem xv_X4_colourOf : XV yX4_colourOf cX4_colourOf 3 (some .int) 1 := ⟨tt_of (tt_3 (List.mem_of_getElem? (i := 66) rfl)) rfl, tt_of (tt_s 10 rfl) rfl, wi_X4, tt_of (tt_3 (List.mem_of_getElem? (i := 67) rfl)) rfl, ⟨by decide +kernel, by decide +kernel, by decide +kernel⟩⟩
theorem xv_X4_measureClique : XV yX4_measureClique cX4_measureClique 1 (some .int) 0 := ⟨tt_of (tt_3 (List.mem_of_getElem? (i := 127) rfl)) rfl, tt_of (tt_3 (List.mem_of_getElem? (i := 128) rfl)) rfl, wi_X4, tt_of (tt_3 (List.mem_of_getElem? (i := 129) rfl)) rfl, ⟨by decide +kernel, by decide +kernel, by decide +kernel⟩⟩
theorem xv_X4_cliqueAmong : XV yX4_cliqueAmong cX4_cliqueAmong 10 (some .int) 2 := ⟨tt_of (tt_3 (List.mem_of_getElem? (i := 133) rfl)) rfl, tt_of (tt_s 17 rfl) rfl, wi_X4, tt_of (tt_3 (List.mem_of_getElem? (i := 134) rfl)) rfl, ⟨by decide +kernel, by decide +kernel, by decide +kernel⟩⟩
theorem xi_X5_init : XI yX5_init cX5_init 2 1 := ⟨rfl, tt_of (tt_1 (List.mem_of_getElem? (i := 144) rfl)) rfl, wi_X5, tt_of (tt_1 (List.mem_of_getElem? (i := 145) rfl)) rfl, ⟨by decide +kernel, by decide +kernel, by decide +kernel⟩⟩
theorem xv_X5_forget : XV yX5_forget cX5_forget 1 none 0 := ⟨tt_of (tt_2 (List.mem_of_getElem? (i := 67) rfl)) rfl, tt_of (tt_2 (List.mem_of_getElem? (i := 68) rfl)) rfl, wi_X5, tt_of (tt_2 (List.mem_of_getElem? (i := 69) rfl)) rfl, ⟨by decide +kernel, by decide +kernel, by decide +kernel⟩⟩
theorem xv_X5_pieces : XV yX5_pieces cX5_pieces 1 (some .int) 0 := ⟨tt_of (tt_3 (List.mem_of_getElem? (i := 33) rfl)) rfl, tt_of (tt_3 (List.mem_of_getElem? (i := 34) rfl)) rfl, wi_X5, tt_of (tt_3 (List.mem_of_getElem? (i := 35) rfl)) rfl, ⟨by decide +kernel, by decide +kernel, by decide +kernel⟩⟩
theorem xv_X5_lead : XV yX5_lead cX5_lead 1 (some .int) 0 := ⟨tt_of (tt_3 (List.mem_of_getElem? (i := 41) rfl)) rfl, tt_of (tt_3 (List.mem_of_getElem? (i := 42) rfl)) rfl, wi_X5, tt_of (tt_3 (List.mem_of_getElem? (i := 43) rfl)) rfl, ⟨by decide +kernel, by decide +kernel, by decide +kernel⟩⟩
theorem xv_X5_plan : XV yX5_plan cX5_plan 6 none 1 := ⟨tt_of (tt_2 (List.mem_of_getElem? (i := 226) rfl)) rfl, tt_of (tt_2 (List.mem_of_getElem? (i := 227) rfl)) rfl, wi_X5, tt_of (tt_2 (List.mem_of_getElem? (i := 228) rfl)) rfl, ⟨by decide +kernel, by decide +kernel, by decide +kernel⟩⟩
theorem xv_X5_frame : XV yX5_frame cX5_frame 2 none 0 := ⟨tt_of (tt_2 (List.mem_of_getElem? (i := 231) rfl)) rfl, tt_of (tt_s 4 rfl) rfl, wi_X5, tt_of (tt_2 (List.mem_of_getElem? (i := 232) rfl)) rfl, ⟨by decide +kernel, by decide +kernel, by decide +kernel⟩⟩
theorem xv_X5_planPart : XV yX5_planPart cX5_planPart 11 none 4 := ⟨tt_of (tt_3 (List.mem_of_getElem? (i := 4) rfl)) rfl, tt_of (tt_s 5 rfl) rfl, wi_X5, tt_of (tt_3 (List.mem_of_getElem? (i := 5) rfl)) rfl, ⟨by decide +kernel, by decide +kernel, by decide +kernel⟩⟩
theorem xv_X5_offer : XV yX5_offer cX5_offer 4 none 3 := ⟨tt_of (tt_3 (List.mem_of_getElem? (i := 26) rfl)) rfl, tt_of (tt_s 7 rfl) rfl, wi_X5, tt_of (tt_3 (List.mem_of_getElem? (i := 27) rfl)) rfl, ⟨by decide +kernel, by decide +kernel, by decide +kernel⟩⟩
theorem xv_X5_crossedBelow : XV yX5_crossedBelow cX5_crossedBelow 4 (some .long) 2 := ⟨tt_of (tt_3 (List.mem_of_getElem? (i := 21) rfl)) rfl, tt_of (tt_s 6 rfl) rfl, wi_X5, tt_of (tt_3 (List.mem_of_getElem? (i := 22) rfl)) rfl, ⟨by decide +kernel, by decide +kernel, by decide +kernel⟩⟩
theorem xv_X5_crossedRight : XV yX5_crossedRight cX5_crossedRight 4 (some .long) 2 := ⟨tt_of (tt_3 (List.mem_of_getElem? (i := 30) rfl)) rfl, tt_of (tt_s 8 rfl) rfl, wi_X5, tt_of (tt_3 (List.mem_of_getElem? (i := 31) rfl)) rfl, ⟨by decide +kernel, by decide +kernel, by decide +kernel⟩⟩
theorem xv_X5_cut : XV yX5_cut cX5_cut 2 none 1 := ⟨tt_of (tt_3 (List.mem_of_getElem? (i := 49) rfl)) rfl, tt_of (tt_3 (List.mem_of_getElem? (i := 50) rfl)) rfl, wi_X5, tt_of (tt_3 (List.mem_of_getElem? (i := 51) rfl)) rfl, ⟨by decide +kernel, by decide +kernel, by decide +kernel⟩⟩
theorem xv_X5_cutPart : XV yX5_cutPart cX5_cutPart 11 none 6 := ⟨tt_of (tt_3 (List.mem_of_getElem? (i := 54) rfl)) rfl, tt_of (tt_s 9 rfl) rfl, wi_X5, tt_of (tt_3 (List.mem_of_getElem? (i := 55) rfl)) rfl, ⟨by decide +kernel, by decide +kernel, by decide +kernel⟩⟩
theorem xs_X5_place : XS yX5_place cX5_place 4 (some .int) 4 := ⟨tt_of (tt_3 (List.mem_of_getElem? (i := 7) rfl)) rfl, wi_X5, tt_of (tt_3 (List.mem_of_getElem? (i := 8) rfl)) rfl, ⟨by decide +kernel, by decide +kernel, by decide +kernel⟩⟩
theorem xs_X5_span : XS yX5_span cX5_span 2 (some .int) 2 := ⟨tt_of (tt_3 (List.mem_of_getElem? (i := 10) rfl)) rfl, wi_X5, tt_of (tt_3 (List.mem_of_getElem? (i := 11) rfl)) rfl, ⟨by decide +kernel, by decide +kernel, by decide +kernel⟩⟩
theorem xi_X6_init : XI yX6_init cX6_init 1 0 := ⟨rfl, tt_of (tt_1 (List.mem_of_getElem? (i := 24) rfl)) rfl, wi_X6, tt_of (tt_1 (List.mem_of_getElem? (i := 25) rfl)) rfl, ⟨by decide +kernel, by decide +kernel, by decide +kernel⟩⟩
theorem xv_X6_append : XV yX6_append cX6_append 2 (some .boolean) 1 := ⟨tt_of (tt_2 (List.mem_of_getElem? (i := 25) rfl)) rfl, tt_of (tt_2 (List.mem_of_getElem? (i := 26) rfl)) rfl, wi_X6, tt_of (tt_2 (List.mem_of_getElem? (i := 27) rfl)) rfl, ⟨by decide +kernel, by decide +kernel, by decide +kernel⟩⟩
theorem xv_X6_errorOffset : XV yX6_errorOffset cX6_errorOffset 7 (some .int) 0 := ⟨tt_of (tt_2 (List.mem_of_getElem? (i := 37) rfl)) rfl, tt_of (tt_2 (List.mem_of_getElem? (i := 38) rfl)) rfl, wi_X6, tt_of (tt_2 (List.mem_of_getElem? (i := 39) rfl)) rfl, ⟨by decide +kernel, by decide +kernel, by decide +kernel⟩⟩
theorem xv_X6_copyTo : XV yX6_copyTo cX6_copyTo 6 none 1 := ⟨tt_of (tt_2 (List.mem_of_getElem? (i := 58) rfl)) rfl, tt_of (tt_2 (List.mem_of_getElem? (i := 59) rfl)) rfl, wi_X6, tt_of (tt_2 (List.mem_of_getElem? (i := 60) rfl)) rfl, ⟨by decide +kernel, by decide +kernel, by decide +kernel⟩⟩
theorem xs_X6_isDigit : XS yX6_isDigit cX6_isDigit 1 (some .boolean) 1 := ⟨tt_of (tt_2 (List.mem_of_getElem? (i := 41) rfl)) rfl, wi_X6, tt_of (tt_2 (List.mem_of_getElem? (i := 42) rfl)) rfl, ⟨by decide +kernel, by decide +kernel, by decide +kernel⟩⟩
theorem xi_X7_init : XI yX7_init cX7_init 1 0 := ⟨rfl, tt_of (tt_1 (List.mem_of_getElem? (i := 16) rfl)) rfl, wi_X7, tt_of (tt_1 (List.mem_of_getElem? (i := 17) rfl)) rfl, ⟨by decide +kernel, by decide +kernel, by decide +kernel⟩⟩
theorem xv_X7_appendCharacter : XV yX7_appendCharacter cX7_appendCharacter 2 (some .int) 1 := ⟨tt_of (tt_2 (List.mem_of_getElem? (i := 21) rfl)) rfl, tt_of (tt_2 (List.mem_of_getElem? (i := 22) rfl)) rfl, wi_X7, tt_of (tt_2 (List.mem_of_getElem? (i := 23) rfl)) rfl, ⟨by decide +kernel, by decide +kernel, by decide +kernel⟩⟩
theorem xv_X7_clearText : XV yX7_clearText cX7_clearText 2 (some .int) 0 := ⟨tt_of (tt_2 (List.mem_of_getElem? (i := 29) rfl)) rfl, tt_of (tt_2 (List.mem_of_getElem? (i := 30) rfl)) rfl, wi_X7, tt_of (tt_2 (List.mem_of_getElem? (i := 31) rfl)) rfl, ⟨by decide +kernel, by decide +kernel, by decide +kernel⟩⟩
theorem xv_X7_loadDrawing : XV yX7_loadDrawing cX7_loadDrawing 2 (some .int) 0 := ⟨tt_of (tt_2 (List.mem_of_getElem? (i := 33) rfl)) rfl, tt_of (tt_2 (List.mem_of_getElem? (i := 34) rfl)) rfl, wi_X7, tt_of (tt_2 (List.mem_of_getElem? (i := 35) rfl)) rfl, ⟨by decide +kernel, by decide +kernel, by decide +kernel⟩⟩
theorem xv_X7_setColour : XV yX7_setColour cX7_setColour 6 (some .int) 3 := ⟨tt_of (tt_2 (List.mem_of_getElem? (i := 71) rfl)) rfl, tt_of (tt_2 (List.mem_of_getElem? (i := 72) rfl)) rfl, wi_X7, tt_of (tt_2 (List.mem_of_getElem? (i := 73) rfl)) rfl, ⟨by decide +kernel, by decide +kernel, by decide +kernel⟩⟩
theorem xv_X7_rows : XV yX7_rows cX7_rows 1 (some .int) 0 := ⟨tt_of (tt_2 (List.mem_of_getElem? (i := 77) rfl)) rfl, tt_of (tt_2 (List.mem_of_getElem? (i := 78) rfl)) rfl, wi_X7, tt_of (tt_2 (List.mem_of_getElem? (i := 79) rfl)) rfl, ⟨by decide +kernel, by decide +kernel, by decide +kernel⟩⟩
theorem xv_X7_columns : XV yX7_columns cX7_columns 1 (some .int) 0 := ⟨tt_of (tt_2 (List.mem_of_getElem? (i := 81) rfl)) rfl, tt_of (tt_2 (List.mem_of_getElem? (i := 82) rfl)) rfl, wi_X7, tt_of (tt_2 (List.mem_of_getElem? (i := 83) rfl)) rfl, ⟨by decide +kernel, by decide +kernel, by decide +kernel⟩⟩
theorem xv_X7_colourAt : XV yX7_colourAt cX7_colourAt 3 (some .int) 2 := ⟨tt_of (tt_2 (List.mem_of_getElem? (i := 85) rfl)) rfl, tt_of (tt_2 (List.mem_of_getElem? (i := 86) rfl)) rfl, wi_X7, tt_of (tt_2 (List.mem_of_getElem? (i := 87) rfl)) rfl, ⟨by decide +kernel, by decide +kernel, by decide +kernel⟩⟩
theorem xv_X7_addCut : XV yX7_addCut cX7_addCut 4 (some .int) 3 := ⟨tt_of (tt_2 (List.mem_of_getElem? (i := 89) rfl)) rfl, tt_of (tt_2 (List.mem_of_getElem? (i := 90) rfl)) rfl, wi_X7, tt_of (tt_2 (List.mem_of_getElem? (i := 91) rfl)) rfl, ⟨by decide +kernel, by decide +kernel, by decide +kernel⟩⟩
theorem xv_X7_removeCut : XV yX7_removeCut cX7_removeCut 4 (some .int) 3 := ⟨tt_of (tt_2 (List.mem_of_getElem? (i := 113) rfl)) rfl, tt_of (tt_2 (List.mem_of_getElem? (i := 114) rfl)) rfl, wi_X7, tt_of (tt_2 (List.mem_of_getElem? (i := 115) rfl)) rfl, ⟨by decide +kernel, by decide +kernel, by decide +kernel⟩⟩
theorem xv_X7_looseCuts : XV yX7_looseCuts cX7_looseCuts 1 (some .int) 0 := ⟨tt_of (tt_2 (List.mem_of_getElem? (i := 117) rfl)) rfl, tt_of (tt_2 (List.mem_of_getElem? (i := 118) rfl)) rfl, wi_X7, tt_of (tt_2 (List.mem_of_getElem? (i := 119) rfl)) rfl, ⟨by decide +kernel, by decide +kernel, by decide +kernel⟩⟩
theorem xv_X7_removeLooseCuts : XV yX7_removeLooseCuts cX7_removeLooseCuts 5 (some .int) 0 := ⟨tt_of (tt_2 (List.mem_of_getElem? (i := 136) rfl)) rfl, tt_of (tt_2 (List.mem_of_getElem? (i := 137) rfl)) rfl, wi_X7, tt_of (tt_2 (List.mem_of_getElem? (i := 138) rfl)) rfl, ⟨by decide +kernel, by decide +kernel, by decide +kernel⟩⟩
theorem xv_X7_paneCount : XV yX7_paneCount cX7_paneCount 1 (some .int) 0 := ⟨tt_of (tt_2 (List.mem_of_getElem? (i := 141) rfl)) rfl, tt_of (tt_2 (List.mem_of_getElem? (i := 142) rfl)) rfl, wi_X7, tt_of (tt_2 (List.mem_of_getElem? (i := 143) rfl)) rfl, ⟨by decide +kernel, by decide +kernel, by decide +kernel⟩⟩
theorem xv_X7_paneAt : XV yX7_paneAt cX7_paneAt 3 (some .int) 2 := ⟨tt_of (tt_2 (List.mem_of_getElem? (i := 145) rfl)) rfl, tt_of (tt_2 (List.mem_of_getElem? (i := 146) rfl)) rfl, wi_X7, tt_of (tt_2 (List.mem_of_getElem? (i := 147) rfl)) rfl, ⟨by decide +kernel, by decide +kernel, by decide +kernel⟩⟩
theorem xv_X7_paneSize : XV yX7_paneSize cX7_paneSize 2 (some .int) 1 := ⟨tt_of (tt_2 (List.mem_of_getElem? (i := 154) rfl)) rfl, tt_of (tt_2 (List.mem_of_getElem? (i := 155) rfl)) rfl, wi_X7, tt_of (tt_2 (List.mem_of_getElem? (i := 156) rfl)) rfl, ⟨by decide +kernel, by decide +kernel, by decide +kernel⟩⟩
theorem xv_X7_innerCorners : XV yX7_innerCorners cX7_innerCorners 2 (some .int) 1 := ⟨tt_of (tt_2 (List.mem_of_getElem? (i := 162) rfl)) rfl, tt_of (tt_2 (List.mem_of_getElem? (i := 163) rfl)) rfl, wi_X7, tt_of (tt_2 (List.mem_of_getElem? (i := 164) rfl)) rfl, ⟨by decide +kernel, by decide +kernel, by decide +kernel⟩⟩
theorem xv_X7_holes : XV yX7_holes cX7_holes 2 (some .int) 1 := ⟨tt_of (tt_2 (List.mem_of_getElem? (i := 170) rfl)) rfl, tt_of (tt_2 (List.mem_of_getElem? (i := 171) rfl)) rfl, wi_X7, tt_of (tt_2 (List.mem_of_getElem? (i := 172) rfl)) rfl, ⟨by decide +kernel, by decide +kernel, by decide +kernel⟩⟩
theorem xv_X7_canBeCut : XV yX7_canBeCut cX7_canBeCut 2 (some .int) 1 := ⟨tt_of (tt_2 (List.mem_of_getElem? (i := 182) rfl)) rfl, tt_of (tt_2 (List.mem_of_getElem? (i := 183) rfl)) rfl, wi_X7, tt_of (tt_2 (List.mem_of_getElem? (i := 184) rfl)) rfl, ⟨by decide +kernel, by decide +kernel, by decide +kernel⟩⟩
theorem xv_X7_cuttableCount : XV yX7_cuttableCount cX7_cuttableCount 3 (some .int) 0 := ⟨tt_of (tt_2 (List.mem_of_getElem? (i := 193) rfl)) rfl, tt_of (tt_2 (List.mem_of_getElem? (i := 194) rfl)) rfl, wi_X7, tt_of (tt_2 (List.mem_of_getElem? (i := 195) rfl)) rfl, ⟨by decide +kernel, by decide +kernel, by decide +kernel⟩⟩
theorem xv_X7_neighbourCount : XV yX7_neighbourCount cX7_neighbourCount 2 (some .int) 1 := ⟨tt_of (tt_2 (List.mem_of_getElem? (i := 197) rfl)) rfl, tt_of (tt_2 (List.mem_of_getElem? (i := 198) rfl)) rfl, wi_X7, tt_of (tt_2 (List.mem_of_getElem? (i := 199) rfl)) rfl, ⟨by decide +kernel, by decide +kernel, by decide +kernel⟩⟩
theorem xv_X7_leadLength : XV yX7_leadLength cX7_leadLength 1 (some .int) 0 := ⟨tt_of (tt_2 (List.mem_of_getElem? (i := 201) rfl)) rfl, tt_of (tt_2 (List.mem_of_getElem? (i := 202) rfl)) rfl, wi_X7, tt_of (tt_2 (List.mem_of_getElem? (i := 203) rfl)) rfl, ⟨by decide +kernel, by decide +kernel, by decide +kernel⟩⟩
theorem xv_X7_setCellLimit : XV yX7_setCellLimit cX7_setCellLimit 3 (some .int) 1 := ⟨tt_of (tt_2 (List.mem_of_getElem? (i := 214) rfl)) rfl, tt_of (tt_2 (List.mem_of_getElem? (i := 215) rfl)) rfl, wi_X7, tt_of (tt_2 (List.mem_of_getElem? (i := 216) rfl)) rfl, ⟨by decide +kernel, by decide +kernel, by decide +kernel⟩⟩
theorem xv_X7_setCornerLimit : XV yX7_setCornerLimit cX7_setCornerLimit 3 (some .int) 1 := ⟨tt_of (tt_2 (List.mem_of_getElem? (i := 218) rfl)) rfl, tt_of (tt_2 (List.mem_of_getElem? (i := 219) rfl)) rfl, wi_X7, tt_of (tt_2 (List.mem_of_getElem? (i := 220) rfl)) rfl, ⟨by decide +kernel, by decide +kernel, by decide +kernel⟩⟩
theorem xv_X7_splitPieces : XV yX7_splitPieces cX7_splitPieces 2 (some .int) 1 := ⟨tt_of (tt_2 (List.mem_of_getElem? (i := 222) rfl)) rfl, tt_of (tt_2 (List.mem_of_getElem? (i := 223) rfl)) rfl, wi_X7, tt_of (tt_2 (List.mem_of_getElem? (i := 224) rfl)) rfl, ⟨by decide +kernel, by decide +kernel, by decide +kernel⟩⟩
theorem xv_X7_splitLead : XV yX7_splitLead cX7_splitLead 2 (some .int) 1 := ⟨tt_of (tt_3 (List.mem_of_getElem? (i := 37) rfl)) rfl, tt_of (tt_3 (List.mem_of_getElem? (i := 38) rfl)) rfl, wi_X7, tt_of (tt_3 (List.mem_of_getElem? (i := 39) rfl)) rfl, ⟨by decide +kernel, by decide +kernel, by decide +kernel⟩⟩
theorem xv_X7_applySplit : XV yX7_applySplit cX7_applySplit 2 (some .int) 1 := ⟨tt_of (tt_3 (List.mem_of_getElem? (i := 45) rfl)) rfl, tt_of (tt_3 (List.mem_of_getElem? (i := 46) rfl)) rfl, wi_X7, tt_of (tt_3 (List.mem_of_getElem? (i := 47) rfl)) rfl, ⟨by decide +kernel, by decide +kernel, by decide +kernel⟩⟩
theorem xv_X7_equalNeighbours : XV yX7_equalNeighbours cX7_equalNeighbours 1 (some .int) 0 := ⟨tt_of (tt_3 (List.mem_of_getElem? (i := 57) rfl)) rfl, tt_of (tt_3 (List.mem_of_getElem? (i := 58) rfl)) rfl, wi_X7, tt_of (tt_3 (List.mem_of_getElem? (i := 59) rfl)) rfl, ⟨by decide +kernel, by decide +kernel, by decide +kernel⟩⟩
theorem xv_X7_colourCount : XV yX7_colourCount cX7_colourCount 2 (some .int) 1 := ⟨tt_of (tt_3 (List.mem_of_getElem? (i := 72) rfl)) rfl, tt_of (tt_3 (List.mem_of_getElem? (i := 73) rfl)) rfl, wi_X7, tt_of (tt_3 (List.mem_of_getElem? (i := 74) rfl)) rfl, ⟨by decide +kernel, by decide +kernel, by decide +kernel⟩⟩
theorem xv_X7_suggestedColour : XV yX7_suggestedColour cX7_suggestedColour 3 (some .int) 2 := ⟨tt_of (tt_3 (List.mem_of_getElem? (i := 115) rfl)) rfl, tt_of (tt_3 (List.mem_of_getElem? (i := 116) rfl)) rfl, wi_X7, tt_of (tt_3 (List.mem_of_getElem? (i := 117) rfl)) rfl, ⟨by decide +kernel, by decide +kernel, by decide +kernel⟩⟩
theorem xv_X7_bestOrder : XV yX7_bestOrder cX7_bestOrder 5 (some .int) 0 := ⟨tt_of (tt_3 (List.mem_of_getElem? (i := 119) rfl)) rfl, tt_of (tt_3 (List.mem_of_getElem? (i := 120) rfl)) rfl, wi_X7, tt_of (tt_3 (List.mem_of_getElem? (i := 121) rfl)) rfl, ⟨by decide +kernel, by decide +kernel, by decide +kernel⟩⟩
theorem xv_X7_largestClique : XV yX7_largestClique cX7_largestClique 1 (some .int) 0 := ⟨tt_of (tt_3 (List.mem_of_getElem? (i := 123) rfl)) rfl, tt_of (tt_3 (List.mem_of_getElem? (i := 124) rfl)) rfl, wi_X7, tt_of (tt_3 (List.mem_of_getElem? (i := 125) rfl)) rfl, ⟨by decide +kernel, by decide +kernel, by decide +kernel⟩⟩
theorem xv_X7_undo : XV yX7_undo cX7_undo 1 (some .int) 0 := ⟨tt_of (tt_3 (List.mem_of_getElem? (i := 139) rfl)) rfl, tt_of (tt_3 (List.mem_of_getElem? (i := 140) rfl)) rfl, wi_X7, tt_of (tt_3 (List.mem_of_getElem? (i := 141) rfl)) rfl, ⟨by decide +kernel, by decide +kernel, by decide +kernel⟩⟩
theorem xv_X7_flipCut : XV yX7_flipCut cX7_flipCut 4 (some .int) 3 := ⟨tt_of (tt_2 (List.mem_of_getElem? (i := 96) rfl)) rfl, tt_of (tt_s 3 rfl) rfl, wi_X7, tt_of (tt_2 (List.mem_of_getElem? (i := 97) rfl)) rfl, ⟨by decide +kernel, by decide +kernel, by decide +kernel⟩⟩
theorem xv_X7_refresh : XV yX7_refresh cX7_refresh 1 none 0 := ⟨tt_of (tt_2 (List.mem_of_getElem? (i := 64) rfl)) rfl, tt_of (tt_s 2 rfl) rfl, wi_X7, tt_of (tt_2 (List.mem_of_getElem? (i := 65) rfl)) rfl, ⟨by decide +kernel, by decide +kernel, by decide +kernel⟩⟩
theorem xi_X8_init : XI yX8_init cX8_init 1 0 := ⟨rfl, tt_of (tt_3 (List.mem_of_getElem? (i := 149) rfl)) rfl, wi_X8, tt_of (tt_3 (List.mem_of_getElem? (i := 150) rfl)) rfl, ⟨by decide +kernel, by decide +kernel, by decide +kernel⟩⟩
theorem xs_X8_in : XS yX8_in cX8_in 3 (some .boolean) 3 := ⟨tt_of (tt_4 (List.mem_of_getElem? (i := 4) rfl)) rfl, wi_X8, tt_of (tt_4 (List.mem_of_getElem? (i := 5) rfl)) rfl, ⟨by decide +kernel, by decide +kernel, by decide +kernel⟩⟩
theorem xv_X8_isCell : XV yX8_isCell cX8_isCell 3 (some .boolean) 2 := ⟨tt_of (tt_4 (List.mem_of_getElem? (i := 32) rfl)) rfl, tt_of (tt_s 22 rfl) rfl, wi_X8, tt_of (tt_4 (List.mem_of_getElem? (i := 33) rfl)) rfl, ⟨by decide +kernel, by decide +kernel, by decide +kernel⟩⟩
theorem xv_X8_save : XV yX8_save cX8_save 2 none 0 := ⟨tt_of (tt_4 (List.mem_of_getElem? (i := 20) rfl)) rfl, tt_of (tt_s 19 rfl) rfl, wi_X8, tt_of (tt_4 (List.mem_of_getElem? (i := 21) rfl)) rfl, ⟨by decide +kernel, by decide +kernel, by decide +kernel⟩⟩
theorem xv_X8_undo : XV yX8_undo cX8_undo 2 (some .int) 0 := ⟨tt_of (tt_3 (List.mem_of_getElem? (i := 236) rfl)) rfl, tt_of (tt_3 (List.mem_of_getElem? (i := 237) rfl)) rfl, wi_X8, tt_of (tt_3 (List.mem_of_getElem? (i := 238) rfl)) rfl, ⟨by decide +kernel, by decide +kernel, by decide +kernel⟩⟩
theorem xv_X8_changed : XV yX8_changed cX8_changed 4 (some .int) 2 := ⟨tt_of (tt_4 (List.mem_of_getElem? (i := 55) rfl)) rfl, tt_of (tt_s 26 rfl) rfl, wi_X8, tt_of (tt_4 (List.mem_of_getElem? (i := 56) rfl)) rfl, ⟨by decide +kernel, by decide +kernel, by decide +kernel⟩⟩
theorem xv_X8_appendCharacter : XV yX8_appendCharacter cX8_appendCharacter 2 (some .int) 1 := ⟨tt_of (tt_4 (List.mem_of_getElem? (i := 0) rfl)) rfl, tt_of (tt_4 (List.mem_of_getElem? (i := 1) rfl)) rfl, wi_X8, tt_of (tt_4 (List.mem_of_getElem? (i := 2) rfl)) rfl, ⟨by decide +kernel, by decide +kernel, by decide +kernel⟩⟩
theorem xv_X8_clearText : XV yX8_clearText cX8_clearText 2 (some .int) 0 := ⟨tt_of (tt_4 (List.mem_of_getElem? (i := 7) rfl)) rfl, tt_of (tt_4 (List.mem_of_getElem? (i := 8) rfl)) rfl, wi_X8, tt_of (tt_4 (List.mem_of_getElem? (i := 9) rfl)) rfl, ⟨by decide +kernel, by decide +kernel, by decide +kernel⟩⟩
theorem xv_X8_reads : XV yX8_reads cX8_reads 5 (some .int) 0 := ⟨tt_of (tt_4 (List.mem_of_getElem? (i := 16) rfl)) rfl, tt_of (tt_s 18 rfl) rfl, wi_X8, tt_of (tt_4 (List.mem_of_getElem? (i := 17) rfl)) rfl, ⟨by decide +kernel, by decide +kernel, by decide +kernel⟩⟩
theorem xv_X8_loadDrawing : XV yX8_loadDrawing cX8_loadDrawing 4 (some .int) 0 := ⟨tt_of (tt_4 (List.mem_of_getElem? (i := 11) rfl)) rfl, tt_of (tt_4 (List.mem_of_getElem? (i := 12) rfl)) rfl, wi_X8, tt_of (tt_4 (List.mem_of_getElem? (i := 13) rfl)) rfl, ⟨by decide +kernel, by decide +kernel, by decide +kernel⟩⟩
theorem xv_X8_setColour : XV yX8_setColour cX8_setColour 5 (some .int) 3 := ⟨tt_of (tt_4 (List.mem_of_getElem? (i := 50) rfl)) rfl, tt_of (tt_4 (List.mem_of_getElem? (i := 51) rfl)) rfl, wi_X8, tt_of (tt_4 (List.mem_of_getElem? (i := 52) rfl)) rfl, ⟨by decide +kernel, by decide +kernel, by decide +kernel⟩⟩
theorem xv_X8_rows : XV yX8_rows cX8_rows 1 (some .int) 0 := ⟨tt_of (tt_4 (List.mem_of_getElem? (i := 58) rfl)) rfl, tt_of (tt_4 (List.mem_of_getElem? (i := 59) rfl)) rfl, wi_X8, tt_of (tt_4 (List.mem_of_getElem? (i := 60) rfl)) rfl, ⟨by decide +kernel, by decide +kernel, by decide +kernel⟩⟩
theorem xv_X8_columns : XV yX8_columns cX8_columns 1 (some .int) 0 := ⟨tt_of (tt_4 (List.mem_of_getElem? (i := 62) rfl)) rfl, tt_of (tt_4 (List.mem_of_getElem? (i := 63) rfl)) rfl, wi_X8, tt_of (tt_4 (List.mem_of_getElem? (i := 64) rfl)) rfl, ⟨by decide +kernel, by decide +kernel, by decide +kernel⟩⟩
theorem xv_X8_colourAt : XV yX8_colourAt cX8_colourAt 3 (some .int) 2 := ⟨tt_of (tt_4 (List.mem_of_getElem? (i := 66) rfl)) rfl, tt_of (tt_4 (List.mem_of_getElem? (i := 67) rfl)) rfl, wi_X8, tt_of (tt_4 (List.mem_of_getElem? (i := 68) rfl)) rfl, ⟨by decide +kernel, by decide +kernel, by decide +kernel⟩⟩
theorem xv_X8_hasNext : XV yX8_hasNext cX8_hasNext 3 (some .boolean) 2 := ⟨tt_of (tt_4 (List.mem_of_getElem? (i := 47) rfl)) rfl, tt_of (tt_s 25 rfl) rfl, wi_X8, tt_of (tt_4 (List.mem_of_getElem? (i := 48) rfl)) rfl, ⟨by decide +kernel, by decide +kernel, by decide +kernel⟩⟩
theorem xs_X8_step : XS yX8_step cX8_step 1 (some .int) 1 := ⟨tt_of (tt_4 (List.mem_of_getElem? (i := 39) rfl)) rfl, wi_X8, tt_of (tt_4 (List.mem_of_getElem? (i := 40) rfl)) rfl, ⟨by decide +kernel, by decide +kernel, by decide +kernel⟩⟩
theorem xv_X8_joins : XV yX8_joins cX8_joins 3 (some .boolean) 2 := ⟨tt_of (tt_4 (List.mem_of_getElem? (i := 43) rfl)) rfl, tt_of (tt_s 24 rfl) rfl, wi_X8, tt_of (tt_4 (List.mem_of_getElem? (i := 44) rfl)) rfl, ⟨by decide +kernel, by decide +kernel, by decide +kernel⟩⟩
theorem xv_X8_isCut : XV yX8_isCut cX8_isCut 4 (some .boolean) 3 := ⟨tt_of (tt_4 (List.mem_of_getElem? (i := 75) rfl)) rfl, tt_of (tt_s 27 rfl) rfl, wi_X8, tt_of (tt_4 (List.mem_of_getElem? (i := 76) rfl)) rfl, ⟨by decide +kernel, by decide +kernel, by decide +kernel⟩⟩
theorem xv_X8_cuts : XV yX8_cuts cX8_cuts 3 (some .int) 0 := ⟨tt_of (tt_4 (List.mem_of_getElem? (i := 79) rfl)) rfl, tt_of (tt_s 28 rfl) rfl, wi_X8, tt_of (tt_4 (List.mem_of_getElem? (i := 80) rfl)) rfl, ⟨by decide +kernel, by decide +kernel, by decide +kernel⟩⟩
theorem xv_X8_addCut : XV yX8_addCut cX8_addCut 6 (some .int) 3 := ⟨tt_of (tt_4 (List.mem_of_getElem? (i := 70) rfl)) rfl, tt_of (tt_4 (List.mem_of_getElem? (i := 71) rfl)) rfl, wi_X8, tt_of (tt_4 (List.mem_of_getElem? (i := 72) rfl)) rfl, ⟨by decide +kernel, by decide +kernel, by decide +kernel⟩⟩
theorem xv_X8_removeCut : XV yX8_removeCut cX8_removeCut 6 (some .int) 3 := ⟨tt_of (tt_4 (List.mem_of_getElem? (i := 82) rfl)) rfl, tt_of (tt_4 (List.mem_of_getElem? (i := 83) rfl)) rfl, wi_X8, tt_of (tt_4 (List.mem_of_getElem? (i := 84) rfl)) rfl, ⟨by decide +kernel, by decide +kernel, by decide +kernel⟩⟩
theorem xv_X8_spread : XV yX8_spread cX8_spread 11 (some .int) 3 := ⟨tt_of (tt_4 (List.mem_of_getElem? (i := 36) rfl)) rfl, tt_of (tt_s 23 rfl) rfl, wi_X8, tt_of (tt_4 (List.mem_of_getElem? (i := 37) rfl)) rfl, ⟨by decide +kernel, by decide +kernel, by decide +kernel⟩⟩
theorem xv_X8_wholeDrawing : XV yX8_wholeDrawing cX8_wholeDrawing 1 none 0 := ⟨tt_of (tt_4 (List.mem_of_getElem? (i := 28) rfl)) rfl, tt_of (tt_s 21 rfl) rfl, wi_X8, tt_of (tt_4 (List.mem_of_getElem? (i := 29) rfl)) rfl, ⟨by decide +kernel, by decide +kernel, by decide +kernel⟩⟩
theorem xv_X8_findPanes : XV yX8_findPanes cX8_findPanes 2 none 0 := ⟨tt_of (tt_4 (List.mem_of_getElem? (i := 24) rfl)) rfl, tt_of (tt_s 20 rfl) rfl, wi_X8, tt_of (tt_4 (List.mem_of_getElem? (i := 25) rfl)) rfl, ⟨by decide +kernel, by decide +kernel, by decide +kernel⟩⟩
theorem xv_X8_isPane : XV yX8_isPane cX8_isPane 2 (some .boolean) 1 := ⟨tt_of (tt_4 (List.mem_of_getElem? (i := 99) rfl)) rfl, tt_of (tt_s 29 rfl) rfl, wi_X8, tt_of (tt_4 (List.mem_of_getElem? (i := 100) rfl)) rfl, ⟨by decide +kernel, by decide +kernel, by decide +kernel⟩⟩
theorem xv_X8_corners : XV yX8_corners cX8_corners 8 (some .int) 2 := ⟨tt_of (tt_4 (List.mem_of_getElem? (i := 107) rfl)) rfl, tt_of (tt_s 30 rfl) rfl, wi_X8, tt_of (tt_4 (List.mem_of_getElem? (i := 108) rfl)) rfl, ⟨by decide +kernel, by decide +kernel, by decide +kernel⟩⟩
theorem xv_X8_isEdge : XV yX8_isEdge cX8_isEdge 4 (some .boolean) 1 := ⟨tt_of (tt_4 (List.mem_of_getElem? (i := 123) rfl)) rfl, tt_of (tt_s 33 rfl) rfl, wi_X8, tt_of (tt_4 (List.mem_of_getElem? (i := 124) rfl)) rfl, ⟨by decide +kernel, by decide +kernel, by decide +kernel⟩⟩
theorem xv_X8_isHole : XV yX8_isHole cX8_isHole 11 (some .boolean) 3 := ⟨tt_of (tt_4 (List.mem_of_getElem? (i := 119) rfl)) rfl, tt_of (tt_s 32 rfl) rfl, wi_X8, tt_of (tt_4 (List.mem_of_getElem? (i := 120) rfl)) rfl, ⟨by decide +kernel, by decide +kernel, by decide +kernel⟩⟩
theorem xv_X8_holesOf : XV yX8_holesOf cX8_holesOf 5 (some .int) 2 := ⟨tt_of (tt_4 (List.mem_of_getElem? (i := 115) rfl)) rfl, tt_of (tt_s 31 rfl) rfl, wi_X8, tt_of (tt_4 (List.mem_of_getElem? (i := 116) rfl)) rfl, ⟨by decide +kernel, by decide +kernel, by decide +kernel⟩⟩
theorem xv_X8_isEasy : XV yX8_isEasy cX8_isEasy 4 (some .boolean) 3 := ⟨tt_of (tt_4 (List.mem_of_getElem? (i := 135) rfl)) rfl, tt_of (tt_s 35 rfl) rfl, wi_X8, tt_of (tt_4 (List.mem_of_getElem? (i := 136) rfl)) rfl, ⟨by decide +kernel, by decide +kernel, by decide +kernel⟩⟩
theorem xv_X8_canCut : XV yX8_canCut cX8_canCut 2 (some .boolean) 1 := ⟨tt_of (tt_4 (List.mem_of_getElem? (i := 131) rfl)) rfl, tt_of (tt_s 34 rfl) rfl, wi_X8, tt_of (tt_4 (List.mem_of_getElem? (i := 132) rfl)) rfl, ⟨by decide +kernel, by decide +kernel, by decide +kernel⟩⟩
theorem xv_X8_paneCount : XV yX8_paneCount cX8_paneCount 1 (some .int) 0 := ⟨tt_of (tt_4 (List.mem_of_getElem? (i := 86) rfl)) rfl, tt_of (tt_4 (List.mem_of_getElem? (i := 87) rfl)) rfl, wi_X8, tt_of (tt_4 (List.mem_of_getElem? (i := 88) rfl)) rfl, ⟨by decide +kernel, by decide +kernel, by decide +kernel⟩⟩
theorem xv_X8_paneAt : XV yX8_paneAt cX8_paneAt 3 (some .int) 2 := ⟨tt_of (tt_4 (List.mem_of_getElem? (i := 90) rfl)) rfl, tt_of (tt_4 (List.mem_of_getElem? (i := 91) rfl)) rfl, wi_X8, tt_of (tt_4 (List.mem_of_getElem? (i := 92) rfl)) rfl, ⟨by decide +kernel, by decide +kernel, by decide +kernel⟩⟩
theorem xv_X8_paneSize : XV yX8_paneSize cX8_paneSize 2 (some .int) 1 := ⟨tt_of (tt_4 (List.mem_of_getElem? (i := 94) rfl)) rfl, tt_of (tt_4 (List.mem_of_getElem? (i := 95) rfl)) rfl, wi_X8, tt_of (tt_4 (List.mem_of_getElem? (i := 96) rfl)) rfl, ⟨by decide +kernel, by decide +kernel, by decide +kernel⟩⟩
theorem xv_X8_innerCorners : XV yX8_innerCorners cX8_innerCorners 2 (some .int) 1 := ⟨tt_of (tt_4 (List.mem_of_getElem? (i := 102) rfl)) rfl, tt_of (tt_4 (List.mem_of_getElem? (i := 103) rfl)) rfl, wi_X8, tt_of (tt_4 (List.mem_of_getElem? (i := 104) rfl)) rfl, ⟨by decide +kernel, by decide +kernel, by decide +kernel⟩⟩
theorem xv_X8_holes : XV yX8_holes cX8_holes 2 (some .int) 1 := ⟨tt_of (tt_4 (List.mem_of_getElem? (i := 110) rfl)) rfl, tt_of (tt_4 (List.mem_of_getElem? (i := 111) rfl)) rfl, wi_X8, tt_of (tt_4 (List.mem_of_getElem? (i := 112) rfl)) rfl, ⟨by decide +kernel, by decide +kernel, by decide +kernel⟩⟩
theorem xv_X8_canBeCut : XV yX8_canBeCut cX8_canBeCut 2 (some .int) 1 := ⟨tt_of (tt_4 (List.mem_of_getElem? (i := 126) rfl)) rfl, tt_of (tt_4 (List.mem_of_getElem? (i := 127) rfl)) rfl, wi_X8, tt_of (tt_4 (List.mem_of_getElem? (i := 128) rfl)) rfl, ⟨by decide +kernel, by decide +kernel, by decide +kernel⟩⟩
theorem xv_X8_cuttableCount : XV yX8_cuttableCount cX8_cuttableCount 3 (some .int) 0 := ⟨tt_of (tt_4 (List.mem_of_getElem? (i := 138) rfl)) rfl, tt_of (tt_4 (List.mem_of_getElem? (i := 139) rfl)) rfl, wi_X8, tt_of (tt_4 (List.mem_of_getElem? (i := 140) rfl)) rfl, ⟨by decide +kernel, by decide +kernel, by decide +kernel⟩⟩
theorem xv_X8_isLoose : XV yX8_isLoose cX8_isLoose 3 (some .boolean) 1 := ⟨tt_of (tt_4 (List.mem_of_getElem? (i := 147) rfl)) rfl, tt_of (tt_s 36 rfl) rfl, wi_X8, tt_of (tt_4 (List.mem_of_getElem? (i := 148) rfl)) rfl, ⟨by decide +kernel, by decide +kernel, by decide +kernel⟩⟩
theorem xv_X8_looseCuts : XV yX8_looseCuts cX8_looseCuts 3 (some .int) 0 := ⟨tt_of (tt_4 (List.mem_of_getElem? (i := 142) rfl)) rfl, tt_of (tt_4 (List.mem_of_getElem? (i := 143) rfl)) rfl, wi_X8, tt_of (tt_4 (List.mem_of_getElem? (i := 144) rfl)) rfl, ⟨by decide +kernel, by decide +kernel, by decide +kernel⟩⟩
theorem xv_X8_removeLooseCuts : XV yX8_removeLooseCuts cX8_removeLooseCuts 3 (some .int) 0 := ⟨tt_of (tt_4 (List.mem_of_getElem? (i := 150) rfl)) rfl, tt_of (tt_4 (List.mem_of_getElem? (i := 151) rfl)) rfl, wi_X8, tt_of (tt_4 (List.mem_of_getElem? (i := 152) rfl)) rfl, ⟨by decide +kernel, by decide +kernel, by decide +kernel⟩⟩
theorem xv_X8_findNear : XV yX8_findNear cX8_findNear 6 (some .int) 0 := ⟨tt_of (tt_4 (List.mem_of_getElem? (i := 160) rfl)) rfl, tt_of (tt_s 37 rfl) rfl, wi_X8, tt_of (tt_4 (List.mem_of_getElem? (i := 161) rfl)) rfl, ⟨by decide +kernel, by decide +kernel, by decide +kernel⟩⟩
theorem xv_X8_neighbourCount : XV yX8_neighbourCount cX8_neighbourCount 3 (some .int) 1 := ⟨tt_of (tt_4 (List.mem_of_getElem? (i := 155) rfl)) rfl, tt_of (tt_4 (List.mem_of_getElem? (i := 156) rfl)) rfl, wi_X8, tt_of (tt_4 (List.mem_of_getElem? (i := 157) rfl)) rfl, ⟨by decide +kernel, by decide +kernel, by decide +kernel⟩⟩
theorem xv_X8_leadLength : XV yX8_leadLength cX8_leadLength 1 (some .int) 0 := ⟨tt_of (tt_4 (List.mem_of_getElem? (i := 163) rfl)) rfl, tt_of (tt_4 (List.mem_of_getElem? (i := 164) rfl)) rfl, wi_X8, tt_of (tt_4 (List.mem_of_getElem? (i := 165) rfl)) rfl, ⟨by decide +kernel, by decide +kernel, by decide +kernel⟩⟩
theorem xv_X8_setCellLimit : XV yX8_setCellLimit cX8_setCellLimit 2 (some .int) 1 := ⟨tt_of (tt_4 (List.mem_of_getElem? (i := 167) rfl)) rfl, tt_of (tt_4 (List.mem_of_getElem? (i := 168) rfl)) rfl, wi_X8, tt_of (tt_4 (List.mem_of_getElem? (i := 169) rfl)) rfl, ⟨by decide +kernel, by decide +kernel, by decide +kernel⟩⟩
theorem xv_X8_setCornerLimit : XV yX8_setCornerLimit cX8_setCornerLimit 2 (some .int) 1 := ⟨tt_of (tt_4 (List.mem_of_getElem? (i := 171) rfl)) rfl, tt_of (tt_4 (List.mem_of_getElem? (i := 172) rfl)) rfl, wi_X8, tt_of (tt_4 (List.mem_of_getElem? (i := 173) rfl)) rfl, ⟨by decide +kernel, by decide +kernel, by decide +kernel⟩⟩
theorem xs_X8_box : XS yX8_box cX8_box 4 (some .int) 4 := ⟨tt_of (tt_4 (List.mem_of_getElem? (i := 187) rfl)) rfl, wi_X8, tt_of (tt_4 (List.mem_of_getElem? (i := 188) rfl)) rfl, ⟨by decide +kernel, by decide +kernel, by decide +kernel⟩⟩
theorem xv_X8_easyMany : XV yX8_easyMany cX8_easyMany 7 (some .int) 1 := ⟨tt_of (tt_4 (List.mem_of_getElem? (i := 191) rfl)) rfl, tt_of (tt_s 40 rfl) rfl, wi_X8, tt_of (tt_4 (List.mem_of_getElem? (i := 192) rfl)) rfl, ⟨by decide +kernel, by decide +kernel, by decide +kernel⟩⟩
theorem xv_X8_apartBelow : XV yX8_apartBelow cX8_apartBelow 7 (some .int) 4 := ⟨tt_of (tt_4 (List.mem_of_getElem? (i := 195) rfl)) rfl, tt_of (tt_s 41 rfl) rfl, wi_X8, tt_of (tt_4 (List.mem_of_getElem? (i := 196) rfl)) rfl, ⟨by decide +kernel, by decide +kernel, by decide +kernel⟩⟩
theorem xv_X8_apartRight : XV yX8_apartRight cX8_apartRight 7 (some .int) 4 := ⟨tt_of (tt_4 (List.mem_of_getElem? (i := 203) rfl)) rfl, tt_of (tt_s 43 rfl) rfl, wi_X8, tt_of (tt_4 (List.mem_of_getElem? (i := 204) rfl)) rfl, ⟨by decide +kernel, by decide +kernel, by decide +kernel⟩⟩
theorem xv_X8_tries : XV yX8_tries cX8_tries 8 none 5 := ⟨tt_of (tt_4 (List.mem_of_getElem? (i := 199) rfl)) rfl, tt_of (tt_s 42 rfl) rfl, wi_X8, tt_of (tt_4 (List.mem_of_getElem? (i := 200) rfl)) rfl, ⟨by decide +kernel, by decide +kernel, by decide +kernel⟩⟩
theorem xv_X8_layBox : XV yX8_layBox cX8_layBox 11 none 1 := ⟨tt_of (tt_4 (List.mem_of_getElem? (i := 184) rfl)) rfl, tt_of (tt_s 39 rfl) rfl, wi_X8, tt_of (tt_4 (List.mem_of_getElem? (i := 185) rfl)) rfl, ⟨by decide +kernel, by decide +kernel, by decide +kernel⟩⟩
theorem xv_X8_layPlan : XV yX8_layPlan cX8_layPlan 10 (some .int) 1 := ⟨tt_of (tt_4 (List.mem_of_getElem? (i := 180) rfl)) rfl, tt_of (tt_s 38 rfl) rfl, wi_X8, tt_of (tt_4 (List.mem_of_getElem? (i := 181) rfl)) rfl, ⟨by decide +kernel, by decide +kernel, by decide +kernel⟩⟩
theorem xv_X8_splitPieces : XV yX8_splitPieces cX8_splitPieces 2 (some .int) 1 := ⟨tt_of (tt_4 (List.mem_of_getElem? (i := 175) rfl)) rfl, tt_of (tt_4 (List.mem_of_getElem? (i := 176) rfl)) rfl, wi_X8, tt_of (tt_4 (List.mem_of_getElem? (i := 177) rfl)) rfl, ⟨by decide +kernel, by decide +kernel, by decide +kernel⟩⟩
theorem xv_X8_splitLead : XV yX8_splitLead cX8_splitLead 2 (some .int) 1 := ⟨tt_of (tt_4 (List.mem_of_getElem? (i := 206) rfl)) rfl, tt_of (tt_4 (List.mem_of_getElem? (i := 207) rfl)) rfl, wi_X8, tt_of (tt_4 (List.mem_of_getElem? (i := 208) rfl)) rfl, ⟨by decide +kernel, by decide +kernel, by decide +kernel⟩⟩
theorem xv_X8_cutBy : XV yX8_cutBy cX8_cutBy 14 (some .int) 3 := ⟨tt_of (tt_4 (List.mem_of_getElem? (i := 215) rfl)) rfl, tt_of (tt_s 44 rfl) rfl, wi_X8, tt_of (tt_4 (List.mem_of_getElem? (i := 216) rfl)) rfl, ⟨by decide +kernel, by decide +kernel, by decide +kernel⟩⟩
theorem xv_X8_applySplit : XV yX8_applySplit cX8_applySplit 4 (some .int) 1 := ⟨tt_of (tt_4 (List.mem_of_getElem? (i := 210) rfl)) rfl, tt_of (tt_4 (List.mem_of_getElem? (i := 211) rfl)) rfl, wi_X8, tt_of (tt_4 (List.mem_of_getElem? (i := 212) rfl)) rfl, ⟨by decide +kernel, by decide +kernel, by decide +kernel⟩⟩
theorem xv_X8_equalNeighbours : XV yX8_equalNeighbours cX8_equalNeighbours 6 (some .int) 0 := ⟨tt_of (tt_4 (List.mem_of_getElem? (i := 218) rfl)) rfl, tt_of (tt_4 (List.mem_of_getElem? (i := 219) rfl)) rfl, wi_X8, tt_of (tt_4 (List.mem_of_getElem? (i := 220) rfl)) rfl, ⟨by decide +kernel, by decide +kernel, by decide +kernel⟩⟩
theorem xv_X8_firstOf : XV yX8_firstOf cX8_firstOf 3 (some .int) 1 := ⟨tt_of (tt_4 (List.mem_of_getElem? (i := 223) rfl)) rfl, tt_of (tt_s 45 rfl) rfl, wi_X8, tt_of (tt_4 (List.mem_of_getElem? (i := 224) rfl)) rfl, ⟨by decide +kernel, by decide +kernel, by decide +kernel⟩⟩
theorem xv_X8_leftNear : XV yX8_leftNear cX8_leftNear 4 (some .int) 1 := ⟨tt_of (tt_4 (List.mem_of_getElem? (i := 239) rfl)) rfl, tt_of (tt_s 48 rfl) rfl, wi_X8, tt_of (tt_5 (List.mem_of_getElem? (i := 0) rfl)) rfl, ⟨by decide +kernel, by decide +kernel, by decide +kernel⟩⟩
theorem xv_X8_nextPane : XV yX8_nextPane cX8_nextPane 6 (some .int) 1 := ⟨tt_of (tt_4 (List.mem_of_getElem? (i := 235) rfl)) rfl, tt_of (tt_s 47 rfl) rfl, wi_X8, tt_of (tt_4 (List.mem_of_getElem? (i := 236) rfl)) rfl, ⟨by decide +kernel, by decide +kernel, by decide +kernel⟩⟩
theorem xv_X8_colourOne : XV yX8_colourOne cX8_colourOne 5 none 1 := ⟨tt_of (tt_5 (List.mem_of_getElem? (i := 3) rfl)) rfl, tt_of (tt_s 49 rfl) rfl, wi_X8, tt_of (tt_5 (List.mem_of_getElem? (i := 4) rfl)) rfl, ⟨by decide +kernel, by decide +kernel, by decide +kernel⟩⟩
theorem xv_X8_colourAll : XV yX8_colourAll cX8_colourAll 4 (some .int) 1 := ⟨tt_of (tt_4 (List.mem_of_getElem? (i := 231) rfl)) rfl, tt_of (tt_s 46 rfl) rfl, wi_X8, tt_of (tt_4 (List.mem_of_getElem? (i := 232) rfl)) rfl, ⟨by decide +kernel, by decide +kernel, by decide +kernel⟩⟩
theorem xv_X8_colourCount : XV yX8_colourCount cX8_colourCount 3 (some .int) 1 := ⟨tt_of (tt_4 (List.mem_of_getElem? (i := 226) rfl)) rfl, tt_of (tt_4 (List.mem_of_getElem? (i := 227) rfl)) rfl, wi_X8, tt_of (tt_4 (List.mem_of_getElem? (i := 228) rfl)) rfl, ⟨by decide +kernel, by decide +kernel, by decide +kernel⟩⟩
theorem xv_X8_suggestedColour : XV yX8_suggestedColour cX8_suggestedColour 5 (some .int) 2 := ⟨tt_of (tt_5 (List.mem_of_getElem? (i := 6) rfl)) rfl, tt_of (tt_5 (List.mem_of_getElem? (i := 7) rfl)) rfl, wi_X8, tt_of (tt_5 (List.mem_of_getElem? (i := 8) rfl)) rfl, ⟨by decide +kernel, by decide +kernel, by decide +kernel⟩⟩
theorem xv_X8_bestOrder : XV yX8_bestOrder cX8_bestOrder 6 (some .int) 0 := ⟨tt_of (tt_5 (List.mem_of_getElem? (i := 10) rfl)) rfl, tt_of (tt_5 (List.mem_of_getElem? (i := 11) rfl)) rfl, wi_X8, tt_of (tt_5 (List.mem_of_getElem? (i := 12) rfl)) rfl, ⟨by decide +kernel, by decide +kernel, by decide +kernel⟩⟩
theorem xv_X8_areNear : XV yX8_areNear cX8_areNear 3 (some .boolean) 2 := ⟨tt_of (tt_5 (List.mem_of_getElem? (i := 19) rfl)) rfl, tt_of (tt_s 50 rfl) rfl, wi_X8, tt_of (tt_5 (List.mem_of_getElem? (i := 20) rfl)) rfl, ⟨by decide +kernel, by decide +kernel, by decide +kernel⟩⟩
theorem xv_X8_largestClique : XV yX8_largestClique cX8_largestClique 7 (some .int) 0 := ⟨tt_of (tt_5 (List.mem_of_getElem? (i := 14) rfl)) rfl, tt_of (tt_5 (List.mem_of_getElem? (i := 15) rfl)) rfl, wi_X8, tt_of (tt_5 (List.mem_of_getElem? (i := 16) rfl)) rfl, ⟨by decide +kernel, by decide +kernel, by decide +kernel⟩⟩
theorem xs_J13_bitCount_95d88 : XS yJ13_bitCount_95d88 cJ13_bitCount_95d88 2 (some .int) 1 := ⟨tt_of (tt_2 (List.mem_of_getElem? (i := 107) rfl)) rfl, wi_J13, tt_of (tt_2 (List.mem_of_getElem? (i := 108) rfl)) rfl, ⟨by decide +kernel, by decide +kernel, by decide +kernel⟩⟩
theorem lk_L_9 : Cond.methodLink RL 9 yX7_init ∈ TT := tt_of (tt_1 (List.mem_of_getElem? (i := 15) rfl)) rfl
theorem lk_X7_25 : Cond.methodLink RX7 25 yX3_init ∈ TT := tt_of (tt_1 (List.mem_of_getElem? (i := 85) rfl)) rfl
theorem lk_X7_32 : Cond.methodLink RX7 32 yX4_init ∈ TT := tt_of (tt_1 (List.mem_of_getElem? (i := 105) rfl)) rfl
theorem lk_X7_41 : Cond.methodLink RX7 41 yX5_init ∈ TT := tt_of (tt_1 (List.mem_of_getElem? (i := 143) rfl)) rfl
theorem lk_X7_50 : Cond.methodLink RX7 50 yX1_init ∈ TT := tt_of (tt_1 (List.mem_of_getElem? (i := 177) rfl)) rfl
theorem lk_X7_55 : Cond.methodLink RX7 55 yX4_find ∈ TT := tt_of (tt_1 (List.mem_of_getElem? (i := 192) rfl)) rfl
theorem lk_X4_44 : Cond.methodLink RX4 44 yX0_block ∈ TT := tt_of (tt_1 (List.mem_of_getElem? (i := 196) rfl)) rfl
theorem lk_X4_48 : Cond.methodLink RX4 48 yX2_joined ∈ TT := tt_of (tt_1 (List.mem_of_getElem? (i := 199) rfl)) rfl
theorem lk_X2_66 : Cond.methodLink RX2 66 yX2_isJoined ∈ TT := tt_of (tt_1 (List.mem_of_getElem? (i := 203) rfl)) rfl
theorem lk_X2_55 : Cond.methodLink RX2 55 yX2_hasPair ∈ TT := tt_of (tt_1 (List.mem_of_getElem? (i := 207) rfl)) rfl
theorem lk_X2_41 : Cond.methodLink RX2 41 yX2_hasCell ∈ TT := tt_of (tt_1 (List.mem_of_getElem? (i := 211) rfl)) rfl
theorem lk_X2_59 : Cond.methodLink RX2 59 yX2_hasCut ∈ TT := tt_of (tt_1 (List.mem_of_getElem? (i := 215) rfl)) rfl
theorem lk_X2_45 : Cond.methodLink RX2 45 yX0_only ∈ TT := tt_of (tt_1 (List.mem_of_getElem? (i := 219) rfl)) rfl
theorem lk_X0_9 : Cond.methodLink RX0 9 yX0_number ∈ TT := tt_of (tt_1 (List.mem_of_getElem? (i := 222) rfl)) rfl
theorem lk_X2_62 : Cond.methodLink RX2 62 yX0_number ∈ TT := tt_of (tt_1 (List.mem_of_getElem? (i := 225) rfl)) rfl
theorem lk_X4_52 : Cond.methodLink RX4 52 yX0_first ∈ TT := tt_of (tt_1 (List.mem_of_getElem? (i := 226) rfl)) rfl
theorem lk_X4_56 : Cond.methodLink RX4 56 yX4_fragment ∈ TT := tt_of (tt_1 (List.mem_of_getElem? (i := 229) rfl)) rfl
theorem lk_X4_62 : Cond.methodLink RX4 62 yX4_touching ∈ TT := tt_of (tt_1 (List.mem_of_getElem? (i := 234) rfl)) rfl
theorem lk_X4_65 : Cond.methodLink RX4 65 yX0_beside ∈ TT := tt_of (tt_1 (List.mem_of_getElem? (i := 238) rfl)) rfl
theorem lk_L_13 : Cond.methodLink RL 13 yX7_appendCharacter ∈ TT := tt_of (tt_2 (List.mem_of_getElem? (i := 20) rfl)) rfl
theorem lk_X7_58 : Cond.methodLink RX7 58 yX6_append ∈ TT := tt_of (tt_2 (List.mem_of_getElem? (i := 24) rfl)) rfl
theorem lk_L_18 : Cond.methodLink RL 18 yX7_clearText ∈ TT := tt_of (tt_2 (List.mem_of_getElem? (i := 28) rfl)) rfl
theorem lk_L_23 : Cond.methodLink RL 23 yX7_loadDrawing ∈ TT := tt_of (tt_2 (List.mem_of_getElem? (i := 32) rfl)) rfl
theorem lk_X7_66 : Cond.methodLink RX7 66 yX6_errorOffset ∈ TT := tt_of (tt_2 (List.mem_of_getElem? (i := 36) rfl)) rfl
theorem lk_X6_21 : Cond.methodLink RX6 21 yX6_isDigit ∈ TT := tt_of (tt_2 (List.mem_of_getElem? (i := 40) rfl)) rfl
theorem lk_X7_70 : Cond.methodLink RX7 70 yX3_remember ∈ TT := tt_of (tt_2 (List.mem_of_getElem? (i := 43) rfl)) rfl
theorem lk_X3_23 : Cond.methodLink RX3 23 yX2_copyFrom ∈ TT := tt_of (tt_2 (List.mem_of_getElem? (i := 47) rfl)) rfl
theorem lk_X7_73 : Cond.methodLink RX7 73 yX6_copyTo ∈ TT := tt_of (tt_2 (List.mem_of_getElem? (i := 57) rfl)) rfl
theorem lk_X6_33 : Cond.methodLink RX6 33 yX0_number ∈ TT := tt_of (tt_2 (List.mem_of_getElem? (i := 61) rfl)) rfl
theorem lk_X7_83 : Cond.methodLink RX7 83 yX7_refresh ∈ TT := tt_of (tt_2 (List.mem_of_getElem? (i := 62) rfl)) rfl
theorem lk_X7_215 : Cond.methodLink RX7 215 yX5_forget ∈ TT := tt_of (tt_2 (List.mem_of_getElem? (i := 66) rfl)) rfl
theorem lk_L_27 : Cond.methodLink RL 27 yX7_setColour ∈ TT := tt_of (tt_2 (List.mem_of_getElem? (i := 70) rfl)) rfl
theorem lk_X7_89 : Cond.methodLink RX7 89 yX2_hasCell ∈ TT := tt_of (tt_2 (List.mem_of_getElem? (i := 74) rfl)) rfl
theorem lk_X7_93 : Cond.methodLink RX7 93 yX0_number ∈ TT := tt_of (tt_2 (List.mem_of_getElem? (i := 75) rfl)) rfl
theorem lk_L_32 : Cond.methodLink RL 32 yX7_rows ∈ TT := tt_of (tt_2 (List.mem_of_getElem? (i := 76) rfl)) rfl
theorem lk_L_36 : Cond.methodLink RL 36 yX7_columns ∈ TT := tt_of (tt_2 (List.mem_of_getElem? (i := 80) rfl)) rfl
theorem lk_L_40 : Cond.methodLink RL 40 yX7_colourAt ∈ TT := tt_of (tt_2 (List.mem_of_getElem? (i := 84) rfl)) rfl
theorem lk_L_45 : Cond.methodLink RL 45 yX7_addCut ∈ TT := tt_of (tt_2 (List.mem_of_getElem? (i := 88) rfl)) rfl
theorem lk_X7_109 : Cond.methodLink RX7 109 yX2_hasPair ∈ TT := tt_of (tt_2 (List.mem_of_getElem? (i := 92) rfl)) rfl
theorem lk_X7_113 : Cond.methodLink RX7 113 yX2_hasCut ∈ TT := tt_of (tt_2 (List.mem_of_getElem? (i := 93) rfl)) rfl
theorem lk_X7_116 : Cond.methodLink RX7 116 yX7_flipCut ∈ TT := tt_of (tt_2 (List.mem_of_getElem? (i := 94) rfl)) rfl
theorem lk_X7_208 : Cond.methodLink RX7 208 yX2_flip ∈ TT := tt_of (tt_2 (List.mem_of_getElem? (i := 98) rfl)) rfl
theorem lk_X7_212 : Cond.methodLink RX7 212 yX2_countCuts ∈ TT := tt_of (tt_2 (List.mem_of_getElem? (i := 102) rfl)) rfl
theorem lk_X2_49 : Cond.methodLink RX2 49 yJ13_bitCount_95d88 ∈ TT := tt_of (tt_2 (List.mem_of_getElem? (i := 106) rfl)) rfl
theorem lk_L_49 : Cond.methodLink RL 49 yX7_removeCut ∈ TT := tt_of (tt_2 (List.mem_of_getElem? (i := 112) rfl)) rfl
theorem lk_L_53 : Cond.methodLink RL 53 yX7_looseCuts ∈ TT := tt_of (tt_2 (List.mem_of_getElem? (i := 116) rfl)) rfl
theorem lk_X7_120 : Cond.methodLink RX7 120 yX4_looseRight ∈ TT := tt_of (tt_2 (List.mem_of_getElem? (i := 120) rfl)) rfl
theorem lk_X4_91 : Cond.methodLink RX4 91 yX0_pairsRight ∈ TT := tt_of (tt_2 (List.mem_of_getElem? (i := 124) rfl)) rfl
theorem lk_X7_124 : Cond.methodLink RX7 124 yJ13_bitCount_95d88 ∈ TT := tt_of (tt_2 (List.mem_of_getElem? (i := 127) rfl)) rfl
theorem lk_X7_130 : Cond.methodLink RX7 130 yX4_looseBelow ∈ TT := tt_of (tt_2 (List.mem_of_getElem? (i := 128) rfl)) rfl
theorem lk_X4_97 : Cond.methodLink RX4 97 yX0_pairsBelow ∈ TT := tt_of (tt_2 (List.mem_of_getElem? (i := 132) rfl)) rfl
theorem lk_L_57 : Cond.methodLink RL 57 yX7_removeLooseCuts ∈ TT := tt_of (tt_2 (List.mem_of_getElem? (i := 135) rfl)) rfl
theorem lk_L_61 : Cond.methodLink RL 61 yX7_paneCount ∈ TT := tt_of (tt_2 (List.mem_of_getElem? (i := 140) rfl)) rfl
theorem lk_L_65 : Cond.methodLink RL 65 yX7_paneAt ∈ TT := tt_of (tt_2 (List.mem_of_getElem? (i := 144) rfl)) rfl
theorem lk_X7_135 : Cond.methodLink RX7 135 yX0_only ∈ TT := tt_of (tt_2 (List.mem_of_getElem? (i := 148) rfl)) rfl
theorem lk_X7_139 : Cond.methodLink RX7 139 yX4_numberOf ∈ TT := tt_of (tt_2 (List.mem_of_getElem? (i := 149) rfl)) rfl
theorem lk_L_69 : Cond.methodLink RL 69 yX7_paneSize ∈ TT := tt_of (tt_2 (List.mem_of_getElem? (i := 153) rfl)) rfl
theorem lk_X7_142 : Cond.methodLink RX7 142 yX4_hasPane ∈ TT := tt_of (tt_2 (List.mem_of_getElem? (i := 157) rfl)) rfl
theorem lk_L_73 : Cond.methodLink RL 73 yX7_innerCorners ∈ TT := tt_of (tt_2 (List.mem_of_getElem? (i := 161) rfl)) rfl
theorem lk_X7_149 : Cond.methodLink RX7 149 yX0_countInnerCorners ∈ TT := tt_of (tt_2 (List.mem_of_getElem? (i := 165) rfl)) rfl
theorem lk_X0_21 : Cond.methodLink RX0 21 yJ13_bitCount_95d88 ∈ TT := tt_of (tt_2 (List.mem_of_getElem? (i := 168) rfl)) rfl
theorem lk_L_77 : Cond.methodLink RL 77 yX7_holes ∈ TT := tt_of (tt_2 (List.mem_of_getElem? (i := 169) rfl)) rfl
theorem lk_X7_155 : Cond.methodLink RX7 155 yX0_countHoles ∈ TT := tt_of (tt_2 (List.mem_of_getElem? (i := 173) rfl)) rfl
theorem lk_X0_35 : Cond.methodLink RX0 35 yX0_connected ∈ TT := tt_of (tt_2 (List.mem_of_getElem? (i := 177) rfl)) rfl
theorem lk_X0_17 : Cond.methodLink RX0 17 yX0_first ∈ TT := tt_of (tt_2 (List.mem_of_getElem? (i := 180) rfl)) rfl
theorem lk_L_81 : Cond.methodLink RL 81 yX7_canBeCut ∈ TT := tt_of (tt_2 (List.mem_of_getElem? (i := 181) rfl)) rfl
theorem lk_X7_159 : Cond.methodLink RX7 159 yX4_isEasy ∈ TT := tt_of (tt_2 (List.mem_of_getElem? (i := 185) rfl)) rfl
theorem lk_X4_68 : Cond.methodLink RX4 68 yJ13_bitCount_95d88 ∈ TT := tt_of (tt_2 (List.mem_of_getElem? (i := 189) rfl)) rfl
theorem lk_X4_77 : Cond.methodLink RX4 77 yX0_countInnerCorners ∈ TT := tt_of (tt_2 (List.mem_of_getElem? (i := 190) rfl)) rfl
theorem lk_X4_83 : Cond.methodLink RX4 83 yX0_countHoles ∈ TT := tt_of (tt_2 (List.mem_of_getElem? (i := 191) rfl)) rfl
theorem lk_L_85 : Cond.methodLink RL 85 yX7_cuttableCount ∈ TT := tt_of (tt_2 (List.mem_of_getElem? (i := 192) rfl)) rfl
theorem lk_L_89 : Cond.methodLink RL 89 yX7_neighbourCount ∈ TT := tt_of (tt_2 (List.mem_of_getElem? (i := 196) rfl)) rfl
theorem lk_L_93 : Cond.methodLink RL 93 yX7_leadLength ∈ TT := tt_of (tt_2 (List.mem_of_getElem? (i := 200) rfl)) rfl
theorem lk_X7_166 : Cond.methodLink RX7 166 yX4_measureLead ∈ TT := tt_of (tt_2 (List.mem_of_getElem? (i := 204) rfl)) rfl
theorem lk_X4_103 : Cond.methodLink RX4 103 yX0_countPairs ∈ TT := tt_of (tt_2 (List.mem_of_getElem? (i := 208) rfl)) rfl
theorem lk_X0_27 : Cond.methodLink RX0 27 yX0_pairsRight ∈ TT := tt_of (tt_2 (List.mem_of_getElem? (i := 211) rfl)) rfl
theorem lk_X0_30 : Cond.methodLink RX0 30 yX0_pairsBelow ∈ TT := tt_of (tt_2 (List.mem_of_getElem? (i := 212) rfl)) rfl
theorem lk_L_97 : Cond.methodLink RL 97 yX7_setCellLimit ∈ TT := tt_of (tt_2 (List.mem_of_getElem? (i := 213) rfl)) rfl
theorem lk_L_101 : Cond.methodLink RL 101 yX7_setCornerLimit ∈ TT := tt_of (tt_2 (List.mem_of_getElem? (i := 217) rfl)) rfl
theorem lk_L_105 : Cond.methodLink RL 105 yX7_splitPieces ∈ TT := tt_of (tt_2 (List.mem_of_getElem? (i := 221) rfl)) rfl
theorem lk_X7_175 : Cond.methodLink RX7 175 yX5_plan ∈ TT := tt_of (tt_2 (List.mem_of_getElem? (i := 225) rfl)) rfl
theorem lk_X5_51 : Cond.methodLink RX5 51 yX5_frame ∈ TT := tt_of (tt_2 (List.mem_of_getElem? (i := 229) rfl)) rfl
theorem lk_X5_58 : Cond.methodLink RX5 58 yX0_inRow ∈ TT := tt_of (tt_2 (List.mem_of_getElem? (i := 233) rfl)) rfl
theorem lk_X5_68 : Cond.methodLink RX5 68 yX0_inColumn ∈ TT := tt_of (tt_2 (List.mem_of_getElem? (i := 238) rfl)) rfl
theorem lk_X5_54 : Cond.methodLink RX5 54 yX5_planPart ∈ TT := tt_of (tt_3 (List.mem_of_getElem? (i := 2) rfl)) rfl
theorem lk_X5_42 : Cond.methodLink RX5 42 yX5_place ∈ TT := tt_of (tt_3 (List.mem_of_getElem? (i := 6) rfl)) rfl
theorem lk_X5_114 : Cond.methodLink RX5 114 yX5_span ∈ TT := tt_of (tt_3 (List.mem_of_getElem? (i := 9) rfl)) rfl
theorem lk_X5_71 : Cond.methodLink RX5 71 yX0_block ∈ TT := tt_of (tt_3 (List.mem_of_getElem? (i := 12) rfl)) rfl
theorem lk_X5_75 : Cond.methodLink RX5 75 yX4_countEasyFragments ∈ TT := tt_of (tt_3 (List.mem_of_getElem? (i := 13) rfl)) rfl
theorem lk_X4_87 : Cond.methodLink RX4 87 yX4_isEasy ∈ TT := tt_of (tt_3 (List.mem_of_getElem? (i := 17) rfl)) rfl
theorem lk_X5_80 : Cond.methodLink RX5 80 yX5_crossedBelow ∈ TT := tt_of (tt_3 (List.mem_of_getElem? (i := 19) rfl)) rfl
theorem lk_X5_84 : Cond.methodLink RX5 84 yJ13_bitCount_95d88 ∈ TT := tt_of (tt_3 (List.mem_of_getElem? (i := 23) rfl)) rfl
theorem lk_X5_89 : Cond.methodLink RX5 89 yX5_offer ∈ TT := tt_of (tt_3 (List.mem_of_getElem? (i := 24) rfl)) rfl
theorem lk_X5_93 : Cond.methodLink RX5 93 yX5_crossedRight ∈ TT := tt_of (tt_3 (List.mem_of_getElem? (i := 28) rfl)) rfl
theorem lk_X7_179 : Cond.methodLink RX7 179 yX5_pieces ∈ TT := tt_of (tt_3 (List.mem_of_getElem? (i := 32) rfl)) rfl
theorem lk_L_109 : Cond.methodLink RL 109 yX7_splitLead ∈ TT := tt_of (tt_3 (List.mem_of_getElem? (i := 36) rfl)) rfl
theorem lk_X7_182 : Cond.methodLink RX7 182 yX5_lead ∈ TT := tt_of (tt_3 (List.mem_of_getElem? (i := 40) rfl)) rfl
theorem lk_L_113 : Cond.methodLink RL 113 yX7_applySplit ∈ TT := tt_of (tt_3 (List.mem_of_getElem? (i := 44) rfl)) rfl
theorem lk_X7_185 : Cond.methodLink RX7 185 yX5_cut ∈ TT := tt_of (tt_3 (List.mem_of_getElem? (i := 48) rfl)) rfl
theorem lk_X5_102 : Cond.methodLink RX5 102 yX5_cutPart ∈ TT := tt_of (tt_3 (List.mem_of_getElem? (i := 52) rfl)) rfl
theorem lk_L_117 : Cond.methodLink RL 117 yX7_equalNeighbours ∈ TT := tt_of (tt_3 (List.mem_of_getElem? (i := 56) rfl)) rfl
theorem lk_X7_188 : Cond.methodLink RX7 188 yX4_countEqualNeighbours ∈ TT := tt_of (tt_3 (List.mem_of_getElem? (i := 60) rfl)) rfl
theorem lk_X4_106 : Cond.methodLink RX4 106 yX4_colourOf ∈ TT := tt_of (tt_3 (List.mem_of_getElem? (i := 64) rfl)) rfl
theorem lk_X4_110 : Cond.methodLink RX4 110 yX0_numberOfFirst ∈ TT := tt_of (tt_3 (List.mem_of_getElem? (i := 68) rfl)) rfl
theorem lk_L_121 : Cond.methodLink RL 121 yX7_colourCount ∈ TT := tt_of (tt_3 (List.mem_of_getElem? (i := 71) rfl)) rfl
theorem lk_X7_191 : Cond.methodLink RX7 191 yX1_hasOrder ∈ TT := tt_of (tt_3 (List.mem_of_getElem? (i := 75) rfl)) rfl
theorem lk_X7_194 : Cond.methodLink RX7 194 yX1_paint ∈ TT := tt_of (tt_3 (List.mem_of_getElem? (i := 79) rfl)) rfl
theorem lk_X1_22 : Cond.methodLink RX1 22 yX1_arrangeByNumber ∈ TT := tt_of (tt_3 (List.mem_of_getElem? (i := 83) rfl)) rfl
theorem lk_X1_25 : Cond.methodLink RX1 25 yX1_arrangeByNeighbours ∈ TT := tt_of (tt_3 (List.mem_of_getElem? (i := 87) rfl)) rfl
theorem lk_X1_56 : Cond.methodLink RX1 56 yX4_everyPane ∈ TT := tt_of (tt_3 (List.mem_of_getElem? (i := 91) rfl)) rfl
theorem lk_X1_60 : Cond.methodLink RX1 60 yX1_mostNeighbours ∈ TT := tt_of (tt_3 (List.mem_of_getElem? (i := 95) rfl)) rfl
theorem lk_X1_41 : Cond.methodLink RX1 41 yJ13_bitCount_95d88 ∈ TT := tt_of (tt_3 (List.mem_of_getElem? (i := 99) rfl)) rfl
theorem lk_X1_28 : Cond.methodLink RX1 28 yX1_arrangeByRemoval ∈ TT := tt_of (tt_3 (List.mem_of_getElem? (i := 101) rfl)) rfl
theorem lk_X1_63 : Cond.methodLink RX1 63 yX1_fewestNeighboursAmong ∈ TT := tt_of (tt_3 (List.mem_of_getElem? (i := 105) rfl)) rfl
theorem lk_X1_37 : Cond.methodLink RX1 37 yX1_smallestFree ∈ TT := tt_of (tt_3 (List.mem_of_getElem? (i := 109) rfl)) rfl
theorem lk_X1_53 : Cond.methodLink RX1 53 yX0_numberOfFirst ∈ TT := tt_of (tt_3 (List.mem_of_getElem? (i := 113) rfl)) rfl
theorem lk_L_125 : Cond.methodLink RL 125 yX7_suggestedColour ∈ TT := tt_of (tt_3 (List.mem_of_getElem? (i := 114) rfl)) rfl
theorem lk_L_129 : Cond.methodLink RL 129 yX7_bestOrder ∈ TT := tt_of (tt_3 (List.mem_of_getElem? (i := 118) rfl)) rfl
theorem lk_L_133 : Cond.methodLink RL 133 yX7_largestClique ∈ TT := tt_of (tt_3 (List.mem_of_getElem? (i := 122) rfl)) rfl
theorem lk_X7_201 : Cond.methodLink RX7 201 yX4_measureClique ∈ TT := tt_of (tt_3 (List.mem_of_getElem? (i := 126) rfl)) rfl
theorem lk_X4_117 : Cond.methodLink RX4 117 yX4_everyPane ∈ TT := tt_of (tt_3 (List.mem_of_getElem? (i := 130) rfl)) rfl
theorem lk_X4_121 : Cond.methodLink RX4 121 yX4_cliqueAmong ∈ TT := tt_of (tt_3 (List.mem_of_getElem? (i := 131) rfl)) rfl
theorem lk_L_137 : Cond.methodLink RL 137 yX7_undo ∈ TT := tt_of (tt_3 (List.mem_of_getElem? (i := 138) rfl)) rfl
theorem lk_X7_205 : Cond.methodLink RX7 205 yX3_restore ∈ TT := tt_of (tt_3 (List.mem_of_getElem? (i := 142) rfl)) rfl
theorem lk_L_12 : Cond.methodLink RL 12 yX8_init ∈ TT := tt_of (tt_3 (List.mem_of_getElem? (i := 148) rfl)) rfl
theorem lk_L_140 : Cond.methodLink RL 140 yX8_undo ∈ TT := tt_of (tt_3 (List.mem_of_getElem? (i := 235) rfl)) rfl
theorem lk_L_17 : Cond.methodLink RL 17 yX8_appendCharacter ∈ TT := tt_of (tt_3 (List.mem_of_getElem? (i := 239) rfl)) rfl
theorem lk_X8_65 : Cond.methodLink RX8 65 yX8_in ∈ TT := tt_of (tt_4 (List.mem_of_getElem? (i := 3) rfl)) rfl
theorem lk_L_22 : Cond.methodLink RL 22 yX8_clearText ∈ TT := tt_of (tt_4 (List.mem_of_getElem? (i := 6) rfl)) rfl
theorem lk_L_26 : Cond.methodLink RL 26 yX8_loadDrawing ∈ TT := tt_of (tt_4 (List.mem_of_getElem? (i := 10) rfl)) rfl
theorem lk_X8_85 : Cond.methodLink RX8 85 yX8_reads ∈ TT := tt_of (tt_4 (List.mem_of_getElem? (i := 14) rfl)) rfl
theorem lk_X8_73 : Cond.methodLink RX8 73 yX8_save ∈ TT := tt_of (tt_4 (List.mem_of_getElem? (i := 18) rfl)) rfl
theorem lk_X8_89 : Cond.methodLink RX8 89 yX8_findPanes ∈ TT := tt_of (tt_4 (List.mem_of_getElem? (i := 22) rfl)) rfl
theorem lk_X8_131 : Cond.methodLink RX8 131 yX8_wholeDrawing ∈ TT := tt_of (tt_4 (List.mem_of_getElem? (i := 26) rfl)) rfl
theorem lk_X8_95 : Cond.methodLink RX8 95 yX8_isCell ∈ TT := tt_of (tt_4 (List.mem_of_getElem? (i := 30) rfl)) rfl
theorem lk_X8_134 : Cond.methodLink RX8 134 yX8_spread ∈ TT := tt_of (tt_4 (List.mem_of_getElem? (i := 34) rfl)) rfl
theorem lk_X8_106 : Cond.methodLink RX8 106 yX8_step ∈ TT := tt_of (tt_4 (List.mem_of_getElem? (i := 38) rfl)) rfl
theorem lk_X8_128 : Cond.methodLink RX8 128 yX8_joins ∈ TT := tt_of (tt_4 (List.mem_of_getElem? (i := 41) rfl)) rfl
theorem lk_X8_103 : Cond.methodLink RX8 103 yX8_hasNext ∈ TT := tt_of (tt_4 (List.mem_of_getElem? (i := 45) rfl)) rfl
theorem lk_L_31 : Cond.methodLink RL 31 yX8_setColour ∈ TT := tt_of (tt_4 (List.mem_of_getElem? (i := 49) rfl)) rfl
theorem lk_X8_99 : Cond.methodLink RX8 99 yX8_changed ∈ TT := tt_of (tt_4 (List.mem_of_getElem? (i := 53) rfl)) rfl
theorem lk_L_35 : Cond.methodLink RL 35 yX8_rows ∈ TT := tt_of (tt_4 (List.mem_of_getElem? (i := 57) rfl)) rfl
theorem lk_L_39 : Cond.methodLink RL 39 yX8_columns ∈ TT := tt_of (tt_4 (List.mem_of_getElem? (i := 61) rfl)) rfl
theorem lk_L_44 : Cond.methodLink RL 44 yX8_colourAt ∈ TT := tt_of (tt_4 (List.mem_of_getElem? (i := 65) rfl)) rfl
theorem lk_L_48 : Cond.methodLink RL 48 yX8_addCut ∈ TT := tt_of (tt_4 (List.mem_of_getElem? (i := 69) rfl)) rfl
theorem lk_X8_110 : Cond.methodLink RX8 110 yX8_isCut ∈ TT := tt_of (tt_4 (List.mem_of_getElem? (i := 73) rfl)) rfl
theorem lk_X8_113 : Cond.methodLink RX8 113 yX8_cuts ∈ TT := tt_of (tt_4 (List.mem_of_getElem? (i := 77) rfl)) rfl
theorem lk_L_52 : Cond.methodLink RL 52 yX8_removeCut ∈ TT := tt_of (tt_4 (List.mem_of_getElem? (i := 81) rfl)) rfl
theorem lk_L_64 : Cond.methodLink RL 64 yX8_paneCount ∈ TT := tt_of (tt_4 (List.mem_of_getElem? (i := 85) rfl)) rfl
theorem lk_L_68 : Cond.methodLink RL 68 yX8_paneAt ∈ TT := tt_of (tt_4 (List.mem_of_getElem? (i := 89) rfl)) rfl
theorem lk_L_72 : Cond.methodLink RL 72 yX8_paneSize ∈ TT := tt_of (tt_4 (List.mem_of_getElem? (i := 93) rfl)) rfl
theorem lk_X8_156 : Cond.methodLink RX8 156 yX8_isPane ∈ TT := tt_of (tt_4 (List.mem_of_getElem? (i := 97) rfl)) rfl
theorem lk_L_76 : Cond.methodLink RL 76 yX8_innerCorners ∈ TT := tt_of (tt_4 (List.mem_of_getElem? (i := 101) rfl)) rfl
theorem lk_X8_146 : Cond.methodLink RX8 146 yX8_corners ∈ TT := tt_of (tt_4 (List.mem_of_getElem? (i := 105) rfl)) rfl
theorem lk_L_80 : Cond.methodLink RL 80 yX8_holes ∈ TT := tt_of (tt_4 (List.mem_of_getElem? (i := 109) rfl)) rfl
theorem lk_X8_150 : Cond.methodLink RX8 150 yX8_holesOf ∈ TT := tt_of (tt_4 (List.mem_of_getElem? (i := 113) rfl)) rfl
theorem lk_X8_142 : Cond.methodLink RX8 142 yX8_isHole ∈ TT := tt_of (tt_4 (List.mem_of_getElem? (i := 117) rfl)) rfl
theorem lk_X8_138 : Cond.methodLink RX8 138 yX8_isEdge ∈ TT := tt_of (tt_4 (List.mem_of_getElem? (i := 121) rfl)) rfl
theorem lk_L_84 : Cond.methodLink RL 84 yX8_canBeCut ∈ TT := tt_of (tt_4 (List.mem_of_getElem? (i := 125) rfl)) rfl
theorem lk_X8_159 : Cond.methodLink RX8 159 yX8_canCut ∈ TT := tt_of (tt_4 (List.mem_of_getElem? (i := 129) rfl)) rfl
theorem lk_X8_153 : Cond.methodLink RX8 153 yX8_isEasy ∈ TT := tt_of (tt_4 (List.mem_of_getElem? (i := 133) rfl)) rfl
theorem lk_L_88 : Cond.methodLink RL 88 yX8_cuttableCount ∈ TT := tt_of (tt_4 (List.mem_of_getElem? (i := 137) rfl)) rfl
theorem lk_L_56 : Cond.methodLink RL 56 yX8_looseCuts ∈ TT := tt_of (tt_4 (List.mem_of_getElem? (i := 141) rfl)) rfl
theorem lk_X8_162 : Cond.methodLink RX8 162 yX8_isLoose ∈ TT := tt_of (tt_4 (List.mem_of_getElem? (i := 145) rfl)) rfl
theorem lk_L_60 : Cond.methodLink RL 60 yX8_removeLooseCuts ∈ TT := tt_of (tt_4 (List.mem_of_getElem? (i := 149) rfl)) rfl
theorem lk_X8_165 : Cond.methodLink RX8 165 yX8_looseCuts ∈ TT := tt_of (tt_4 (List.mem_of_getElem? (i := 153) rfl)) rfl
theorem lk_L_92 : Cond.methodLink RL 92 yX8_neighbourCount ∈ TT := tt_of (tt_4 (List.mem_of_getElem? (i := 154) rfl)) rfl
theorem lk_X8_168 : Cond.methodLink RX8 168 yX8_findNear ∈ TT := tt_of (tt_4 (List.mem_of_getElem? (i := 158) rfl)) rfl
theorem lk_L_96 : Cond.methodLink RL 96 yX8_leadLength ∈ TT := tt_of (tt_4 (List.mem_of_getElem? (i := 162) rfl)) rfl
theorem lk_L_100 : Cond.methodLink RL 100 yX8_setCellLimit ∈ TT := tt_of (tt_4 (List.mem_of_getElem? (i := 166) rfl)) rfl
theorem lk_L_104 : Cond.methodLink RL 104 yX8_setCornerLimit ∈ TT := tt_of (tt_4 (List.mem_of_getElem? (i := 170) rfl)) rfl
theorem lk_L_108 : Cond.methodLink RL 108 yX8_splitPieces ∈ TT := tt_of (tt_4 (List.mem_of_getElem? (i := 174) rfl)) rfl
theorem lk_X8_192 : Cond.methodLink RX8 192 yX8_layPlan ∈ TT := tt_of (tt_4 (List.mem_of_getElem? (i := 178) rfl)) rfl
theorem lk_X8_188 : Cond.methodLink RX8 188 yX8_layBox ∈ TT := tt_of (tt_4 (List.mem_of_getElem? (i := 182) rfl)) rfl
theorem lk_X8_171 : Cond.methodLink RX8 171 yX8_box ∈ TT := tt_of (tt_4 (List.mem_of_getElem? (i := 186) rfl)) rfl
theorem lk_X8_175 : Cond.methodLink RX8 175 yX8_easyMany ∈ TT := tt_of (tt_4 (List.mem_of_getElem? (i := 189) rfl)) rfl
theorem lk_X8_178 : Cond.methodLink RX8 178 yX8_apartBelow ∈ TT := tt_of (tt_4 (List.mem_of_getElem? (i := 193) rfl)) rfl
theorem lk_X8_181 : Cond.methodLink RX8 181 yX8_tries ∈ TT := tt_of (tt_4 (List.mem_of_getElem? (i := 197) rfl)) rfl
theorem lk_X8_185 : Cond.methodLink RX8 185 yX8_apartRight ∈ TT := tt_of (tt_4 (List.mem_of_getElem? (i := 201) rfl)) rfl
theorem lk_L_112 : Cond.methodLink RL 112 yX8_splitLead ∈ TT := tt_of (tt_4 (List.mem_of_getElem? (i := 205) rfl)) rfl
theorem lk_L_116 : Cond.methodLink RL 116 yX8_applySplit ∈ TT := tt_of (tt_4 (List.mem_of_getElem? (i := 209) rfl)) rfl
theorem lk_X8_195 : Cond.methodLink RX8 195 yX8_cutBy ∈ TT := tt_of (tt_4 (List.mem_of_getElem? (i := 213) rfl)) rfl
theorem lk_L_120 : Cond.methodLink RL 120 yX8_equalNeighbours ∈ TT := tt_of (tt_4 (List.mem_of_getElem? (i := 217) rfl)) rfl
theorem lk_X8_199 : Cond.methodLink RX8 199 yX8_firstOf ∈ TT := tt_of (tt_4 (List.mem_of_getElem? (i := 221) rfl)) rfl
theorem lk_L_124 : Cond.methodLink RL 124 yX8_colourCount ∈ TT := tt_of (tt_4 (List.mem_of_getElem? (i := 225) rfl)) rfl
theorem lk_X8_211 : Cond.methodLink RX8 211 yX8_colourAll ∈ TT := tt_of (tt_4 (List.mem_of_getElem? (i := 229) rfl)) rfl
theorem lk_X8_205 : Cond.methodLink RX8 205 yX8_nextPane ∈ TT := tt_of (tt_4 (List.mem_of_getElem? (i := 233) rfl)) rfl
theorem lk_X8_202 : Cond.methodLink RX8 202 yX8_leftNear ∈ TT := tt_of (tt_4 (List.mem_of_getElem? (i := 237) rfl)) rfl
theorem lk_X8_208 : Cond.methodLink RX8 208 yX8_colourOne ∈ TT := tt_of (tt_5 (List.mem_of_getElem? (i := 1) rfl)) rfl
theorem lk_L_128 : Cond.methodLink RL 128 yX8_suggestedColour ∈ TT := tt_of (tt_5 (List.mem_of_getElem? (i := 5) rfl)) rfl
theorem lk_L_132 : Cond.methodLink RL 132 yX8_bestOrder ∈ TT := tt_of (tt_5 (List.mem_of_getElem? (i := 9) rfl)) rfl
theorem lk_L_136 : Cond.methodLink RL 136 yX8_largestClique ∈ TT := tt_of (tt_5 (List.mem_of_getElem? (i := 13) rfl)) rfl
theorem lk_X8_214 : Cond.methodLink RX8 214 yX8_areNear ∈ TT := tt_of (tt_5 (List.mem_of_getElem? (i := 17) rfl)) rfl
theorem wo_X7 : Cond.methodLink RX7 1 objectInit ∈ TT := tt_of (tt_1 (List.mem_of_getElem? (i := 18) rfl)) rfl
theorem wo_X6 : Cond.methodLink RX6 5 objectInit ∈ TT := tt_of (tt_1 (List.mem_of_getElem? (i := 26) rfl)) rfl
theorem wo_X2 : Cond.methodLink RX2 1 objectInit ∈ TT := tt_of (tt_1 (List.mem_of_getElem? (i := 41) rfl)) rfl
theorem wo_X3 : Cond.methodLink RX3 1 objectInit ∈ TT := tt_of (tt_1 (List.mem_of_getElem? (i := 88) rfl)) rfl
theorem wo_X4 : Cond.methodLink RX4 1 objectInit ∈ TT := tt_of (tt_1 (List.mem_of_getElem? (i := 108) rfl)) rfl
theorem wo_X5 : Cond.methodLink RX5 3 objectInit ∈ TT := tt_of (tt_1 (List.mem_of_getElem? (i := 146) rfl)) rfl
theorem wo_X1 : Cond.methodLink RX1 1 objectInit ∈ TT := tt_of (tt_1 (List.mem_of_getElem? (i := 180) rfl)) rfl
theorem lk_X2_35 : Cond.methodLink RX2 35 arraycopyName ∈ TT := tt_of (tt_2 (List.mem_of_getElem? (i := 51) rfl)) rfl
theorem lk_X3_27 : Cond.methodLink RX3 27 Lib.Math.min.name ∈ TT := tt_of (tt_2 (List.mem_of_getElem? (i := 54) rfl)) rfl
theorem lk_X5_62 : Cond.methodLink RX5 62 Lib.Math.min.name ∈ TT := tt_of (tt_2 (List.mem_of_getElem? (i := 237) rfl)) rfl
theorem lk_X4_125 : Cond.methodLink RX4 125 Lib.Math.max.name ∈ TT := tt_of (tt_3 (List.mem_of_getElem? (i := 135) rfl)) rfl
theorem wo_X8 : Cond.methodLink RX8 1 objectInit ∈ TT := tt_of (tt_3 (List.mem_of_getElem? (i := 151) rfl)) rfl
theorem wob_i : Cond.instanceMethod objectInit ∈ TT := tt_of (tt_1 (List.mem_of_getElem? (i := 19) rfl)) rfl
theorem wob_c : Cond.code objectInit ⟨#[0xb1]⟩ 1 none ∈ TT := tt_of (tt_1 (List.mem_of_getElem? (i := 20) rfl)) rfl
theorem wm_min_s : Cond.static Lib.Math.min.name ∈ TT := tt_of (tt_2 (List.mem_of_getElem? (i := 55) rfl)) rfl
theorem wm_min_c : Cond.code Lib.Math.min.name Lib.Math.min.code 2 (some .int) ∈ TT := tt_of (tt_2 (List.mem_of_getElem? (i := 56) (by decide +kernel))) (by decide +kernel)
theorem wm_max_s : Cond.static Lib.Math.max.name ∈ TT := tt_of (tt_3 (List.mem_of_getElem? (i := 136) rfl)) rfl
theorem wm_max_c : Cond.code Lib.Math.max.name Lib.Math.max.code 2 (some .int) ∈ TT := tt_of (tt_3 (List.mem_of_getElem? (i := 137) (by decide +kernel))) (by decide +kernel)
theorem wy_s : Cond.static arraycopyName ∈ TT := tt_of (tt_2 (List.mem_of_getElem? (i := 52) rfl)) rfl
theorem wy_n : Cond.native arraycopyName ∈ TT := tt_of (tt_2 (List.mem_of_getElem? (i := 53) rfl)) rfl
end
section
/-! ===== rows over Int and BitVec 64: an int is Int32.ofInt z, a long is Int64.ofBitVec x ===== -/
abbrev xR (z : Int) : Prop := -2147483648 ≤ z ∧ z < 2147483648
abbrev iv (z : Int) : Value := .int (Int32.ofInt z)
abbrev lv (x : BitVec 64) : Value := .long (Int64.ofBitVec x)
def upi {α : Type} (f : Int → α) (i : Int) (x : α) : Int → α := fun j => if j = i then x else f j
abbrev aI (c : ClassId) (n : Nat) (f : Int → Int) : va_E := .inl (c, n, .inl (fun j => Int32.ofInt (f (j : Int))))
abbrev aJ (c : ClassId) (n : Nat) (f : Int → BitVec 64) : va_E := .inl (c, n, .inr (.inl (fun j => Int64.ofBitVec (f (j : Int)))))
theorem x_toInt {z : Int} (h : xR z) : (Int32.ofInt z).toInt = z := Int32.toInt_ofInt_of_le (by have := h.1; omega) (by have := h.2; omega)
theorem x_lt {a b : Int} (ha : xR a) (hb : xR b) : Int32.ofInt a < Int32.ofInt b ↔ a < b := by rw [Int32.lt_iff_toInt_lt, x_toInt ha, x_toInt hb]
theorem x_le {a b : Int} (ha : xR a) (hb : xR b) : Int32.ofInt a ≤ Int32.ofInt b ↔ a ≤ b := by rw [Int32.le_iff_toInt_le, x_toInt ha, x_toInt hb]
theorem x_eq {a b : Int} (ha : xR a) (hb : xR b) : Int32.ofInt a = Int32.ofInt b ↔ a = b := by rw [← Int32.toInt_inj, x_toInt ha, x_toInt hb]
theorem x_nI {a : Int} (h : 0 ≤ a) : Int32.ofInt a = nI a.toNat := by
  obtain ⟨n, rfl⟩ := Int.eq_ofNat_of_zero_le h
  rfl
theorem x_clamp {a : Int} (h0 : 0 ≤ a) (h : a < 2147483648) : (Int32.ofInt a).toNatClampNeg = a.toNat := by
  rw [x_nI h0]; exact nI_clamp (by omega)
theorem x_in {i : Int} {n : Nat} (h : 0 ≤ i ∧ i < n) (hn : n < 2147483648) : vp_in (Int32.ofInt i) n := by
  rw [x_nI h.1]; exact vp_in_nI (by omega) (by omega)
theorem x_div {a b : Int} (ha : 0 ≤ a ∧ a < 2147483648) (hb : 0 < b ∧ b < 2147483648) : Int32.ofInt a / Int32.ofInt b = Int32.ofInt (a / b) := by
  have h0 : 0 ≤ a / b := Int.ediv_nonneg ha.1 (by omega)
  rw [x_nI ha.1, x_nI (by omega : 0 ≤ b), x_nI h0, pk_div (by omega) (by omega) (by omega)]
  congr 1
  obtain ⟨n, rfl⟩ := Int.eq_ofNat_of_zero_le ha.1
  obtain ⟨k, rfl⟩ := Int.eq_ofNat_of_zero_le (by omega : 0 ≤ b)
  rfl
theorem x_rem {a b : Int} (ha : 0 ≤ a ∧ a < 2147483648) (hb : 0 < b ∧ b < 2147483648) : Int32.ofInt a - Int32.ofInt a / Int32.ofInt b * Int32.ofInt b = Int32.ofInt (a % b) := by
  have h0 : 0 ≤ a % b := Int.emod_nonneg _ (by omega)
  rw [x_nI ha.1, x_nI (by omega : 0 ≤ b), x_nI h0, pk_rem (by omega) (by omega) (by omega)]
  congr 1
  obtain ⟨n, rfl⟩ := Int.eq_ofNat_of_zero_le ha.1
  obtain ⟨k, rfl⟩ := Int.eq_ofNat_of_zero_le (by omega : 0 ≤ b)
  rfl
theorem x_toBV (x : BitVec 64) : (Int64.ofBitVec x).toBitVec = x := rfl
theorem x_shk : ∀ k : Fin 64, (((nI k.val).toInt64 &&& 63).toBitVec.smod 64).toNat = k.val ∧ (((nI k.val).toInt64.toUInt64 &&& Int64.toUInt64 63).toBitVec % 64).toNat = k.val := by decide +kernel
theorem x_shl {x : BitVec 64} {n : Int} (h : 0 ≤ n ∧ n < 64) : Int64.ofBitVec x <<< ((Int32.ofInt n).toInt64 &&& 63) = Int64.ofBitVec (x <<< n.toNat) := by
  have hk := (x_shk ⟨n.toNat, by omega⟩).1
  apply Int64.toBitVec_inj.mp
  rw [Int64.toBitVec_shiftLeft, x_nI h.1]
  show x <<< _ = x <<< _
  rw [BitVec.shiftLeft_eq', hk]
theorem x_ushr {x : BitVec 64} {n : Int} (h : 0 ≤ n ∧ n < 64) : ((Int64.ofBitVec x).toUInt64 >>> ((Int32.ofInt n).toInt64.toUInt64 &&& Int64.toUInt64 63)).toInt64 = Int64.ofBitVec (x >>> n.toNat) := by
  have hk := (x_shk ⟨n.toNat, by omega⟩).2
  apply Int64.toBitVec_inj.mp
  rw [x_nI h.1]
  show ((UInt64.ofBitVec x) >>> _).toBitVec = x >>> _
  rw [UInt64.toBitVec_shiftRight]
  show x >>> _ = x >>> _
  rw [BitVec.ushiftRight_eq', hk]
/-! ===== Option: a run that may fall ===== -/
def og {α : Type} (P : Prop) [Decidable P] (t : Option α) : Option α := if P then t else none
theorem og_some {α : Type} {P : Prop} [Decidable P] {t : Option α} {r : α} (h : og P t = some r) : P ∧ t = some r := by
  unfold og at h
  by_cases hp : P
  · rw [if_pos hp] at h; exact ⟨hp, h⟩
  · rw [if_neg hp] at h; cases h
theorem og_pos {α : Type} {P : Prop} [Decidable P] {t : Option α} (h : P) : og P t = t := if_pos h
theorem ob_some {α β : Type} {x : Option α} {f : α → Option β} {r : β} (h : Option.bind x f = some r) : ∃ q, x = some q ∧ f q = some r := by
  cases x with
  | none => cases h
  | some q => exact ⟨q, rfl, h⟩
theorem ol_some {α β : Type} {e : α} {f : α → Option β} {r : β} (h : Option.bind (some e) f = some r) : ∃ q, q = e ∧ f q = some r := ⟨e, rfl, h⟩
theorem oi_t {α : Type} {P : Prop} [Decidable P] {t u : Option α} {r : α} (h : (if P then t else u) = some r) (hp : P) : t = some r := by rwa [if_pos hp] at h
theorem oi_f {α : Type} {P : Prop} [Decidable P] {t u : Option α} {r : α} (h : (if P then t else u) = some r) (hp : ¬ P) : u = some r := by rwa [if_neg hp] at h
/-! ===== the heap ===== -/
def XH (D : va_G) (A : Nat → Prop) (H0 : Heap) (ws : va_W) (H : Heap) (locs : List Loc) : Prop := va_P D vwCl ws H ∧ va_D A ws ∧ va_S A H0 H locs ∧ ∀ q, H0.size ≤ q → A q
def XC (p : Program) (s : State) (m : MethodId) (args : Array Value) (c : Code) (cc : ByteArray) (nL : Nat) (own : String) (w0 : Cond) (D : va_G) (tys : List (ClassId × FieldType)) : Prop := CallFix p m c cc nL s args (w0 :: TT) own ∧ va_K D vwCl tys s
def wput : va_W → List Nat → va_W → va_W
  | ws, i :: is, c :: cs => wput (ws.set i c) is cs
  | ws, _, _ => ws
theorem wput_at : ∀ (is : List Nat) (cs ws : va_W) (k : Nat) (q : Nat × va_E), is.length = cs.length → (wput ws is cs)[k]? = some q → q ∈ cs ∨ (ws[k]? = some q ∧ k ∉ is)
  | [], [], ws, k, q, _, h => Or.inr ⟨h, List.not_mem_nil⟩
  | [], _ :: _, _, _, _, e, _ => by cases e
  | _ :: _, [], _, _, _, e, _ => by cases e
  | i :: is, c :: cs, ws, k, q, e, h => by
    rcases wput_at is cs (ws.set i c) k q (by simpa using e) h with h1 | ⟨h1, h2⟩
    · exact Or.inl (List.mem_cons_of_mem _ h1)
    · by_cases hk : k = i
      · subst hk
        have hl : k < (ws.set k c).length := (List.getElem?_eq_some_iff.mp h1).1
        rw [List.length_set] at hl
        rw [List.getElem?_set_self hl] at h1
        exact Or.inl (by cases h1; exact List.mem_cons_self)
      · rw [List.getElem?_set_ne (fun e => hk e.symm)] at h1
        exact Or.inr ⟨h1, fun hm => (List.mem_cons.mp hm).elim hk h2⟩
theorem wput_fst : ∀ (is : List Nat) (cs ws : va_W), is.map (fun i => (ws[i]?).map Prod.fst) = cs.map (fun q => some q.1) → (wput ws is cs).map Prod.fst = ws.map Prod.fst
  | [], _, _, _ => by unfold wput; rfl
  | _ :: _, [], _, h => by cases h
  | i :: is, c :: cs, ws, h => by
    have h0 : (ws[i]?).map Prod.fst = some c.1 := (List.cons.inj h).1
    have h1 : is.map (fun i => (ws[i]?).map Prod.fst) = cs.map (fun q => some q.1) := (List.cons.inj h).2
    have hset : ∀ j : Nat, ((ws.set i c)[j]?).map Prod.fst = (ws[j]?).map Prod.fst := by
      intro j
      by_cases hj : j = i
      · subst hj
        by_cases hl : j < ws.length
        · rw [List.getElem?_set_self hl, h0]; rfl
        · rw [List.getElem?_eq_none (by simpa using hl), List.getElem?_eq_none (by simpa using hl)]
      · rw [List.getElem?_set_ne (fun e => hj e.symm)]
    show (wput (ws.set i c) is cs).map Prod.fst = _
    rw [wput_fst is cs (ws.set i c) (by rw [← h1]; exact List.map_congr_left (fun j _ => hset j))]
    apply List.ext_getElem?
    intro j
    rw [List.getElem?_map, List.getElem?_map]
    exact hset j
theorem va_D.addr {A : Nat → Prop} {ws ws' : va_W} (h : va_D A ws) (e : ws'.map Prod.fst = ws.map Prod.fst) : va_D A ws' := by
  have at' : ∀ (i : Nat) (p : Nat × va_E), ws'[i]? = some p → ∃ p', ws[i]? = some p' ∧ p'.1 = p.1 := by
    intro i p hp
    have h1 : (ws'.map Prod.fst)[i]? = some p.1 := by rw [List.getElem?_map, hp]; rfl
    rw [e, List.getElem?_map] at h1
    cases hw : ws[i]? with
    | none => rw [hw] at h1; cases h1
    | some p' => rw [hw] at h1; exact ⟨p', rfl, Option.some.inj h1⟩
  refine ⟨fun i j p q hp hq hpq => ?_, fun k q hq => ?_⟩
  · obtain ⟨p', hp', ep⟩ := at' i p hp
    obtain ⟨q', hq', eq⟩ := at' j q hq
    exact h.1 i j p' q' hp' hq' (by rw [ep, eq]; exact hpq)
  · obtain ⟨q', hq', eq⟩ := at' k q hq
    rw [← eq]
    exact h.2 k q' hq'
theorem XH.after {D : va_G} {A : Nat → Prop} {H0 H H1 : Heap} {ws wc wc' : va_W} {locs locs1 : List Loc} (h : XH D A H0 ws H locs) (isC : List Nat) (hC : isC.map (fun i => ws[i]?) = wc.map some) (ha : wc'.map Prod.fst = wc.map Prod.fst)
    (hk : ∀ q : Nat, q < H.size → ¬ va_A wc H.size q → H1[q]? = H[q]?) (hP1 : va_P D vwCl wc' H1) (hS1 : va_S A H0 H1 locs1) : XH D A H0 (wput ws isC wc') H1 locs1 := by
  obtain ⟨hP, hD, hS, hA⟩ := h
  have hlen : isC.length = wc'.length := by
    have h1 := congrArg List.length hC
    have h2 := congrArg List.length ha
    simp only [List.length_map] at h1 h2
    omega
  have hfst : (wput ws isC wc').map Prod.fst = ws.map Prod.fst := by
    refine wput_fst isC wc' ws ?_
    have h1 := congrArg (List.map (Option.map Prod.fst)) hC
    have h2 := congrArg (List.map some) ha
    simp only [List.map_map] at h1 h2
    exact h1.trans h2.symm
  refine ⟨fun k q hq => ?_, hD.addr hfst, hS1, hA⟩
  rcases wput_at isC wc' ws k q hlen hq with h1 | ⟨h1, h2⟩
  · obtain ⟨j, hj⟩ := List.getElem?_of_mem h1
    exact hP1 j q hj
  · have hl := (hP k q h1).lt
    refine (hP k q h1).kept (hk q.1 hl fun h3 => ?_)
    rcases h3 with ⟨k2, e2, h3⟩ | h3
    · have h4 : (isC.map (fun i => ws[i]?))[k2]? = some (some (q.1, e2)) := by rw [hC, List.getElem?_map, h3]; rfl
      rw [List.getElem?_map] at h4
      cases hi : isC[k2]? with
      | none => rw [hi] at h4; cases h4
      | some i =>
        rw [hi] at h4
        have h5 : ws[i]? = some (q.1, e2) := Option.some.inj h4
        have h6 := hD.1 k i q (q.1, e2) h1 h5 rfl
        subst h6
        exact h2 (List.mem_of_getElem? hi)
    · omega
theorem XH.cut {D : va_G} {A : Nat → Prop} {H0 H : Heap} {ws wc : va_W} {locs : List Loc} (h : XH D A H0 ws H locs) (isC : List Nat) (hC : isC.map (fun i => ws[i]?) = wc.map some) (hn : va_nd isC = true) : va_P D vwCl wc H ∧ va_D (fun _ => True) wc ∧ ∀ q, va_A wc H.size q → A q := by
  obtain ⟨hP, hD, hS, hA⟩ := h
  refine ⟨hP.sub isC ?_, (hD.sub isC hn hC).weaken (fun _ _ _ _ => trivial), va_free hD hS hA isC hC⟩
  have h1 : isC.filterMap (fun i => ws[i]?) = (isC.map (fun i => ws[i]?)).filterMap id := by rw [List.filterMap_map]; rfl
  rw [h1, hC, List.filterMap_map]
  simp
end
section
/-! ===== one instruction, a row: over Int and BitVec 64 ===== -/
section XROWS
variable {p : Program} {l : Launch} {e : Env} {R : Room} {s : State} {m : MethodId} {args : Array Value} {below : List Frame} {meth : Method} {c : Code} {H : Heap} {locs : List Loc} {cells slots : Nat} {Q : State → Prop}
variable {cc : ByteArray} {nL : Nat} {own : String} {w0 : Cond} {D : va_G} {tys : List (ClassId × FieldType)} {pc : Nat} {ls : Array Slot} {rest : List Value} {A : Nat → Prop} {H0 : Heap} {ws ws' : va_W}
theorem x_topi {z z' : Int} (h : z = z') (k : W p l e R s m args below meth c H locs cells slots Q (F0 m pc ls (iv z :: rest))) : W p l e R s m args below meth c H locs cells slots Q (F0 m pc ls (iv z' :: rest)) := h ▸ k
theorem x_topl {z z' : BitVec 64} (h : z = z') (k : W p l e R s m args below meth c H locs cells slots Q (F0 m pc ls (lv z :: rest))) : W p l e R s m args below meth c H locs cells slots Q (F0 m pc ls (lv z' :: rest)) := h ▸ k
theorem x_iconst (C : XC p s m args c cc nL own w0 D tys) {n : Int} (hd : decode cc pc = .ok (.iconst n, 1)) (k : W p l e R s m args below meth c H locs cells slots Q (F0 m (pc + 1) ls (iv n :: rest))) : W p l e R s m args below meth c H locs cells slots Q (F0 m pc ls rest) := lv_iconst C.1.1 C.1.2.1 hd rfl k
theorem x_bipush (C : XC p s m args c cc nL own w0 D tys) {n : Int} (hd : decode cc pc = .ok (.bipush n, 2)) (hv : (Int8.ofInt n).toInt32 = Int32.ofInt n) (k : W p l e R s m args below meth c H locs cells slots Q (F0 m (pc + 2) ls (iv n :: rest))) : W p l e R s m args below meth c H locs cells slots Q (F0 m pc ls rest) := lv_bipush C.1.1 C.1.2.1 hd hv k
theorem x_sipush (C : XC p s m args c cc nL own w0 D tys) {n : Int} (hd : decode cc pc = .ok (.sipush n, 3)) (hv : (Int16.ofInt n).toInt32 = Int32.ofInt n) (k : W p l e R s m args below meth c H locs cells slots Q (F0 m (pc + 3) ls (iv n :: rest))) : W p l e R s m args below meth c H locs cells slots Q (F0 m pc ls rest) := lv_sipush C.1.1 C.1.2.1 hd hv k
theorem x_ldc (C : XC p s m args c cc nL own w0 D tys) {idx : Nat} {v : Int32} {n : Int} (hk : Cond.constant own idx v ∈ TT) (hv : v = Int32.ofInt n) (hd : decode cc pc = .ok (.ldc idx, 2)) (k : W p l e R s m args below meth c H locs cells slots Q (F0 m (pc + 2) ls (iv n :: rest))) : W p l e R s m args below meth c H locs cells slots Q (F0 m pc ls rest) := lv_ldc C.1.1 C.1.2.1 C.1.2.2.2.1 (C.1.2.2.2.2 _ (List.mem_cons_of_mem _ hk)) hd (hv ▸ k)
theorem x_ldc2 (C : XC p s m args c cc nL own w0 D tys) {idx : Nat} {v : Int64} {x : BitVec 64} (hk : Cond.constantLong own idx v ∈ TT) (hv : v = Int64.ofBitVec x) (hd : decode cc pc = .ok (.ldc2_w idx, 3)) (k : W p l e R s m args below meth c H locs cells slots Q (F0 m (pc + 3) ls (lv x :: rest))) : W p l e R s m args below meth c H locs cells slots Q (F0 m pc ls rest) := lv_ldc2 C.1.1 C.1.2.1 C.1.2.2.2.1 (C.1.2.2.2.2 _ (List.mem_cons_of_mem _ hk)) hd (hv ▸ k)
theorem x_lconst (C : XC p s m args c cc nL own w0 D tys) {n : Fin 2} {x : BitVec 64} (hv : Int64.ofNat (n : Nat) = Int64.ofBitVec x) (hd : decode cc pc = .ok (.lconst n, 1)) (k : W p l e R s m args below meth c H locs cells slots Q (F0 m (pc + 1) ls (lv x :: rest))) : W p l e R s m args below meth c H locs cells slots Q (F0 m pc ls rest) := lv_lconst C.1.1 C.1.2.1 hd hv k
theorem x_iinc (C : XC p s m args c cc nL own w0 D tys) {i k : Nat} {n z z' : Int} {lw lw' : List (Nat × Value)} (hd : decode cc pc = .ok (.iinc i n, 3)) (h : lv_has ls nL lw) (hk : lw[k]? = some (i, iv z)) (hz : z' = z + n) (hn : i < nL) (hl : (i, iv z') :: lw.filter (fun q => !(q.1 == i) && !(q.1 + 1 == i && q.2.category == 2)) = lw')
    (kk : ∀ ls' : Array Slot, lv_has ls' nL lw' → W p l e R s m args below meth c H locs cells slots Q (F0 m (pc + 3) ls' rest)) : W p l e R s m args below meth c H locs cells slots Q (F0 m pc ls rest) := lv_iinc C.1.1 C.1.2.1 hd h hk (by rw [hz, Int32.ofInt_add]) hn hl kk
theorem x_iadd (C : XC p s m args c cc nL own w0 D tys) {a b : Int} (hd : decode cc pc = .ok (.iadd, 1)) (k : W p l e R s m args below meth c H locs cells slots Q (F0 m (pc + 1) ls (iv (a + b) :: rest))) : W p l e R s m args below meth c H locs cells slots Q (F0 m pc ls (iv b :: iv a :: rest)) := lv_iadd C.1.1 C.1.2.1 hd (by rw [← Int32.ofInt_add]; exact k)
theorem x_isub (C : XC p s m args c cc nL own w0 D tys) {a b : Int} (hd : decode cc pc = .ok (.isub, 1)) (k : W p l e R s m args below meth c H locs cells slots Q (F0 m (pc + 1) ls (iv (a - b) :: rest))) : W p l e R s m args below meth c H locs cells slots Q (F0 m pc ls (iv b :: iv a :: rest)) := lv_isub C.1.1 C.1.2.1 hd (by rw [← Int32.ofInt_sub]; exact k)
theorem x_imul (C : XC p s m args c cc nL own w0 D tys) {a b : Int} (hd : decode cc pc = .ok (.imul, 1)) (k : W p l e R s m args below meth c H locs cells slots Q (F0 m (pc + 1) ls (iv (a * b) :: rest))) : W p l e R s m args below meth c H locs cells slots Q (F0 m pc ls (iv b :: iv a :: rest)) := lv_imul C.1.1 C.1.2.1 hd (by rw [← Int32.ofInt_mul]; exact k)
theorem x_ineg (C : XC p s m args c cc nL own w0 D tys) {a : Int} (hd : decode cc pc = .ok (.ineg, 1)) (k : W p l e R s m args below meth c H locs cells slots Q (F0 m (pc + 1) ls (iv (-a) :: rest))) : W p l e R s m args below meth c H locs cells slots Q (F0 m pc ls (iv a :: rest)) := lv_ineg C.1.1 C.1.2.1 hd (by rw [← Int32.ofInt_neg]; exact k)
theorem x_ne0 {b : Int} (h : 0 < b ∧ b < 2147483648) : ¬ Int32.ofInt b = 0 := fun e => by
  have h1 : Int32.ofInt b = Int32.ofInt 0 := e
  rw [x_eq ⟨by omega, h.2⟩ ⟨by decide, by decide⟩] at h1
  omega
theorem x_idiv (C : XC p s m args c cc nL own w0 D tys) {a b : Int} (ha : 0 ≤ a ∧ a < 2147483648) (hb : 0 < b ∧ b < 2147483648) (hd : decode cc pc = .ok (.idiv, 1)) (k : W p l e R s m args below meth c H locs cells slots Q (F0 m (pc + 1) ls (iv (a / b) :: rest))) : W p l e R s m args below meth c H locs cells slots Q (F0 m pc ls (iv b :: iv a :: rest)) := lv_idiv C.1.1 C.1.2.1 hd (x_ne0 hb) (by rw [x_div ha hb]; exact k)
theorem x_irem (C : XC p s m args c cc nL own w0 D tys) {a b : Int} (ha : 0 ≤ a ∧ a < 2147483648) (hb : 0 < b ∧ b < 2147483648) (hd : decode cc pc = .ok (.irem, 1)) (k : W p l e R s m args below meth c H locs cells slots Q (F0 m (pc + 1) ls (iv (a % b) :: rest))) : W p l e R s m args below meth c H locs cells slots Q (F0 m pc ls (iv b :: iv a :: rest)) := lv_irem C.1.1 C.1.2.1 hd (x_ne0 hb) (by rw [x_rem ha hb]; exact k)
theorem x_land (C : XC p s m args c cc nL own w0 D tys) {a b : BitVec 64} (hd : decode cc pc = .ok (.land, 1)) (k : W p l e R s m args below meth c H locs cells slots Q (F0 m (pc + 1) ls (lv (a &&& b) :: rest))) : W p l e R s m args below meth c H locs cells slots Q (F0 m pc ls (lv b :: lv a :: rest)) := lv_land C.1.1 C.1.2.1 hd k
theorem x_lor (C : XC p s m args c cc nL own w0 D tys) {a b : BitVec 64} (hd : decode cc pc = .ok (.lor, 1)) (k : W p l e R s m args below meth c H locs cells slots Q (F0 m (pc + 1) ls (lv (a ||| b) :: rest))) : W p l e R s m args below meth c H locs cells slots Q (F0 m pc ls (lv b :: lv a :: rest)) := lv_lor C.1.1 C.1.2.1 hd k
theorem x_lxor (C : XC p s m args c cc nL own w0 D tys) {a b : BitVec 64} (hd : decode cc pc = .ok (.lxor, 1)) (k : W p l e R s m args below meth c H locs cells slots Q (F0 m (pc + 1) ls (lv (a ^^^ b) :: rest))) : W p l e R s m args below meth c H locs cells slots Q (F0 m pc ls (lv b :: lv a :: rest)) := lv_lxor C.1.1 C.1.2.1 hd k
theorem x_lsub (C : XC p s m args c cc nL own w0 D tys) {a b : BitVec 64} (hd : decode cc pc = .ok (.lsub, 1)) (k : W p l e R s m args below meth c H locs cells slots Q (F0 m (pc + 1) ls (lv (a - b) :: rest))) : W p l e R s m args below meth c H locs cells slots Q (F0 m pc ls (lv b :: lv a :: rest)) := lv_lsub C.1.1 C.1.2.1 hd k
theorem x_ladd (C : XC p s m args c cc nL own w0 D tys) {a b : BitVec 64} (hd : decode cc pc = .ok (.ladd, 1)) (k : W p l e R s m args below meth c H locs cells slots Q (F0 m (pc + 1) ls (lv (a + b) :: rest))) : W p l e R s m args below meth c H locs cells slots Q (F0 m pc ls (lv b :: lv a :: rest)) := lv_ladd C.1.1 C.1.2.1 hd k
theorem x_lneg (C : XC p s m args c cc nL own w0 D tys) {a : BitVec 64} (hd : decode cc pc = .ok (.lneg, 1)) (k : W p l e R s m args below meth c H locs cells slots Q (F0 m (pc + 1) ls (lv (-a) :: rest))) : W p l e R s m args below meth c H locs cells slots Q (F0 m pc ls (lv a :: rest)) := lv_lneg C.1.1 C.1.2.1 hd k
theorem x_lshl (C : XC p s m args c cc nL own w0 D tys) {a : BitVec 64} {n : Int} (hn : 0 ≤ n ∧ n < 64) (hd : decode cc pc = .ok (.lshl, 1)) (k : W p l e R s m args below meth c H locs cells slots Q (F0 m (pc + 1) ls (lv (a <<< n.toNat) :: rest))) : W p l e R s m args below meth c H locs cells slots Q (F0 m pc ls (iv n :: lv a :: rest)) := lv_lshl C.1.1 C.1.2.1 hd (x_shl hn) k
theorem x_lushr (C : XC p s m args c cc nL own w0 D tys) {a : BitVec 64} {n : Int} (hn : 0 ≤ n ∧ n < 64) (hd : decode cc pc = .ok (.lushr, 1)) (k : W p l e R s m args below meth c H locs cells slots Q (F0 m (pc + 1) ls (lv (a >>> n.toNat) :: rest))) : W p l e R s m args below meth c H locs cells slots Q (F0 m pc ls (iv n :: lv a :: rest)) := lv_lushr C.1.1 C.1.2.1 hd (x_ushr hn) k
theorem x_R0 : xR 0 := ⟨by decide, by decide⟩
theorem x_ifeq (C : XC p s m args c cc nL own w0 D tys) {a : Int} {off : Int} {tgt : Nat} (ha : xR a) (hd : decode cc pc = .ok (.ifCond .eq off, 3)) (ht : (pc : Int) + off = (tgt : Int)) (kt : a = 0 → W p l e R s m args below meth c H locs cells slots Q (F0 m tgt ls rest)) (kf : ¬ a = 0 → W p l e R s m args below meth c H locs cells slots Q (F0 m (pc + 3) ls rest)) : W p l e R s m args below meth c H locs cells slots Q (F0 m pc ls (iv a :: rest)) := lv_if_eq C.1.1 C.1.2.1 hd ht (fun h => kt ((x_eq ha x_R0).mp h)) (fun h => kf (fun h2 => h ((x_eq ha x_R0).mpr h2)))
theorem x_ifne (C : XC p s m args c cc nL own w0 D tys) {a : Int} {off : Int} {tgt : Nat} (ha : xR a) (hd : decode cc pc = .ok (.ifCond .ne off, 3)) (ht : (pc : Int) + off = (tgt : Int)) (kt : ¬ a = 0 → W p l e R s m args below meth c H locs cells slots Q (F0 m tgt ls rest)) (kf : a = 0 → W p l e R s m args below meth c H locs cells slots Q (F0 m (pc + 3) ls rest)) : W p l e R s m args below meth c H locs cells slots Q (F0 m pc ls (iv a :: rest)) := lv_if_ne C.1.1 C.1.2.1 hd ht (fun h => kt (fun h2 => h ((x_eq ha x_R0).mpr h2))) (fun h => kf ((x_eq ha x_R0).mp h))
theorem x_iflt (C : XC p s m args c cc nL own w0 D tys) {a : Int} {off : Int} {tgt : Nat} (ha : xR a) (hd : decode cc pc = .ok (.ifCond .lt off, 3)) (ht : (pc : Int) + off = (tgt : Int)) (kt : a < 0 → W p l e R s m args below meth c H locs cells slots Q (F0 m tgt ls rest)) (kf : ¬ a < 0 → W p l e R s m args below meth c H locs cells slots Q (F0 m (pc + 3) ls rest)) : W p l e R s m args below meth c H locs cells slots Q (F0 m pc ls (iv a :: rest)) := lv_if_lt C.1.1 C.1.2.1 hd ht (fun h => kt ((x_lt ha x_R0).mp h)) (fun h => kf (fun h2 => h ((x_lt ha x_R0).mpr h2)))
theorem x_ifge (C : XC p s m args c cc nL own w0 D tys) {a : Int} {off : Int} {tgt : Nat} (ha : xR a) (hd : decode cc pc = .ok (.ifCond .ge off, 3)) (ht : (pc : Int) + off = (tgt : Int)) (kt : 0 ≤ a → W p l e R s m args below meth c H locs cells slots Q (F0 m tgt ls rest)) (kf : ¬ 0 ≤ a → W p l e R s m args below meth c H locs cells slots Q (F0 m (pc + 3) ls rest)) : W p l e R s m args below meth c H locs cells slots Q (F0 m pc ls (iv a :: rest)) := lv_if_ge C.1.1 C.1.2.1 hd ht (fun h => kt ((x_le x_R0 ha).mp h)) (fun h => kf (fun h2 => h ((x_le x_R0 ha).mpr h2)))
theorem x_ifgt (C : XC p s m args c cc nL own w0 D tys) {a : Int} {off : Int} {tgt : Nat} (ha : xR a) (hd : decode cc pc = .ok (.ifCond .gt off, 3)) (ht : (pc : Int) + off = (tgt : Int)) (kt : 0 < a → W p l e R s m args below meth c H locs cells slots Q (F0 m tgt ls rest)) (kf : ¬ 0 < a → W p l e R s m args below meth c H locs cells slots Q (F0 m (pc + 3) ls rest)) : W p l e R s m args below meth c H locs cells slots Q (F0 m pc ls (iv a :: rest)) := lv_if_gt C.1.1 C.1.2.1 hd ht (fun h => kt ((x_lt x_R0 ha).mp h)) (fun h => kf (fun h2 => h ((x_lt x_R0 ha).mpr h2)))
theorem x_ifle (C : XC p s m args c cc nL own w0 D tys) {a : Int} {off : Int} {tgt : Nat} (ha : xR a) (hd : decode cc pc = .ok (.ifCond .le off, 3)) (ht : (pc : Int) + off = (tgt : Int)) (kt : a ≤ 0 → W p l e R s m args below meth c H locs cells slots Q (F0 m tgt ls rest)) (kf : ¬ a ≤ 0 → W p l e R s m args below meth c H locs cells slots Q (F0 m (pc + 3) ls rest)) : W p l e R s m args below meth c H locs cells slots Q (F0 m pc ls (iv a :: rest)) := lv_if_le C.1.1 C.1.2.1 hd ht (fun h => kt ((x_le ha x_R0).mp h)) (fun h => kf (fun h2 => h ((x_le ha x_R0).mpr h2)))
theorem x_icmpeq (C : XC p s m args c cc nL own w0 D tys) {a b : Int} {off : Int} {tgt : Nat} (ha : xR a) (hb : xR b) (hd : decode cc pc = .ok (.if_icmp .eq off, 3)) (ht : (pc : Int) + off = (tgt : Int)) (kt : a = b → W p l e R s m args below meth c H locs cells slots Q (F0 m tgt ls rest)) (kf : ¬ a = b → W p l e R s m args below meth c H locs cells slots Q (F0 m (pc + 3) ls rest)) : W p l e R s m args below meth c H locs cells slots Q (F0 m pc ls (iv b :: iv a :: rest)) := lv_icmp_eq C.1.1 C.1.2.1 hd ht (fun h => kt ((x_eq ha hb).mp h)) (fun h => kf (fun h2 => h ((x_eq ha hb).mpr h2)))
theorem x_icmpne (C : XC p s m args c cc nL own w0 D tys) {a b : Int} {off : Int} {tgt : Nat} (ha : xR a) (hb : xR b) (hd : decode cc pc = .ok (.if_icmp .ne off, 3)) (ht : (pc : Int) + off = (tgt : Int)) (kt : ¬ a = b → W p l e R s m args below meth c H locs cells slots Q (F0 m tgt ls rest)) (kf : a = b → W p l e R s m args below meth c H locs cells slots Q (F0 m (pc + 3) ls rest)) : W p l e R s m args below meth c H locs cells slots Q (F0 m pc ls (iv b :: iv a :: rest)) := lv_icmp_ne C.1.1 C.1.2.1 hd ht (fun h => kt (fun h2 => h ((x_eq ha hb).mpr h2))) (fun h => kf ((x_eq ha hb).mp h))
theorem x_icmplt (C : XC p s m args c cc nL own w0 D tys) {a b : Int} {off : Int} {tgt : Nat} (ha : xR a) (hb : xR b) (hd : decode cc pc = .ok (.if_icmp .lt off, 3)) (ht : (pc : Int) + off = (tgt : Int)) (kt : a < b → W p l e R s m args below meth c H locs cells slots Q (F0 m tgt ls rest)) (kf : ¬ a < b → W p l e R s m args below meth c H locs cells slots Q (F0 m (pc + 3) ls rest)) : W p l e R s m args below meth c H locs cells slots Q (F0 m pc ls (iv b :: iv a :: rest)) := lv_icmp_lt C.1.1 C.1.2.1 hd ht (fun h => kt ((x_lt ha hb).mp h)) (fun h => kf (fun h2 => h ((x_lt ha hb).mpr h2)))
theorem x_icmpge (C : XC p s m args c cc nL own w0 D tys) {a b : Int} {off : Int} {tgt : Nat} (ha : xR a) (hb : xR b) (hd : decode cc pc = .ok (.if_icmp .ge off, 3)) (ht : (pc : Int) + off = (tgt : Int)) (kt : b ≤ a → W p l e R s m args below meth c H locs cells slots Q (F0 m tgt ls rest)) (kf : ¬ b ≤ a → W p l e R s m args below meth c H locs cells slots Q (F0 m (pc + 3) ls rest)) : W p l e R s m args below meth c H locs cells slots Q (F0 m pc ls (iv b :: iv a :: rest)) := lv_icmp_ge C.1.1 C.1.2.1 hd ht (fun h => kt ((x_le hb ha).mp h)) (fun h => kf (fun h2 => h ((x_le hb ha).mpr h2)))
theorem x_icmpgt (C : XC p s m args c cc nL own w0 D tys) {a b : Int} {off : Int} {tgt : Nat} (ha : xR a) (hb : xR b) (hd : decode cc pc = .ok (.if_icmp .gt off, 3)) (ht : (pc : Int) + off = (tgt : Int)) (kt : b < a → W p l e R s m args below meth c H locs cells slots Q (F0 m tgt ls rest)) (kf : ¬ b < a → W p l e R s m args below meth c H locs cells slots Q (F0 m (pc + 3) ls rest)) : W p l e R s m args below meth c H locs cells slots Q (F0 m pc ls (iv b :: iv a :: rest)) := lv_icmp_gt C.1.1 C.1.2.1 hd ht (fun h => kt ((x_lt hb ha).mp h)) (fun h => kf (fun h2 => h ((x_lt hb ha).mpr h2)))
theorem x_icmple (C : XC p s m args c cc nL own w0 D tys) {a b : Int} {off : Int} {tgt : Nat} (ha : xR a) (hb : xR b) (hd : decode cc pc = .ok (.if_icmp .le off, 3)) (ht : (pc : Int) + off = (tgt : Int)) (kt : a ≤ b → W p l e R s m args below meth c H locs cells slots Q (F0 m tgt ls rest)) (kf : ¬ a ≤ b → W p l e R s m args below meth c H locs cells slots Q (F0 m (pc + 3) ls rest)) : W p l e R s m args below meth c H locs cells slots Q (F0 m pc ls (iv b :: iv a :: rest)) := lv_icmp_le C.1.1 C.1.2.1 hd ht (fun h => kt ((x_le ha hb).mp h)) (fun h => kf (fun h2 => h ((x_le ha hb).mpr h2)))
theorem x_cmp0 {x y : BitVec 64} : lg_cmp (Int64.ofBitVec x) (Int64.ofBitVec y) = 0 ↔ x = y := by
  rw [lg_cmp_eq]
  exact ⟨fun h => congrArg Int64.toBitVec h, fun h => by rw [h]⟩
theorem x_lcmpeq (C : XC p s m args c cc nL own w0 D tys) {a b : BitVec 64} {off : Int} {tgt : Nat} (hd : decode cc pc = .ok (.lcmp, 1)) (hd2 : decode cc (pc + 1) = .ok (.ifCond .eq off, 3)) (ht : ((pc + 1 : Nat) : Int) + off = (tgt : Int)) (kt : a = b → W p l e R s m args below meth c H locs cells slots Q (F0 m tgt ls rest)) (kf : ¬ a = b → W p l e R s m args below meth c H locs cells slots Q (F0 m (pc + 4) ls rest)) : W p l e R s m args below meth c H locs cells slots Q (F0 m pc ls (lv b :: lv a :: rest)) := W.lcmp C.1.1 C.1.2.1 hd (lv_if_eq C.1.1 C.1.2.1 hd2 ht (fun h => kt (x_cmp0.mp h)) (fun h => kf (fun h2 => h (x_cmp0.mpr h2))))
theorem x_lcmpne (C : XC p s m args c cc nL own w0 D tys) {a b : BitVec 64} {off : Int} {tgt : Nat} (hd : decode cc pc = .ok (.lcmp, 1)) (hd2 : decode cc (pc + 1) = .ok (.ifCond .ne off, 3)) (ht : ((pc + 1 : Nat) : Int) + off = (tgt : Int)) (kt : ¬ a = b → W p l e R s m args below meth c H locs cells slots Q (F0 m tgt ls rest)) (kf : a = b → W p l e R s m args below meth c H locs cells slots Q (F0 m (pc + 4) ls rest)) : W p l e R s m args below meth c H locs cells slots Q (F0 m pc ls (lv b :: lv a :: rest)) := W.lcmp C.1.1 C.1.2.1 hd (lv_if_ne C.1.1 C.1.2.1 hd2 ht (fun h => kt (fun h2 => h (x_cmp0.mpr h2))) (fun h => kf (x_cmp0.mp h)))
/-! fields -/
theorem x_get (C : XC p s m args c cc nL own w0 D tys) (h : XH D A H0 ws H locs) {idx ci k : Nat} {q : vw_C} (f : XF own idx ci k q) (q0 : Nat) {a : Nat} {fs : List Value} (he : ws[q0]? = some (a, .inr (ci, fs))) {v : Value} (hv : fs[k]? = some v) (hd : decode cc pc = .ok (.getfield idx, 3))
    (kk : W p l e R s m args below meth c H locs cells slots Q (F0 m (pc + 3) ls (v :: rest))) : W p l e R s m args below meth c H locs cells slots Q (F0 m pc ls (.ref a :: rest)) :=
  va_get (D := D) (C := q.1) (T := q.2.1) (N := q.2.2) C.1.1 C.1.2.1 C.1.2.2.2.2 (fun w hw => List.mem_cons_of_mem _ (f.2.2.2 w hw)) C.1.2.2.2.1 C.2 h.1 q0 he f.1 k f.2.1 (C.1.2.2.2.2 _ (List.mem_cons_of_mem _ f.2.2.1)) (fun _ h9 => h9) hv hd kk
theorem x_put (C : XC p s m args c cc nL own w0 D tys) (h : XH D A H0 ws H locs) {idx ci k : Nat} {q : vw_C} (f : XF own idx ci k q) {tf : Nat → FieldType} (g : XP q tf) (hfin : (q.2.1 k).2.2.2 = false) (q0 : Nat) {a : Nat} {fs : List Value} (he : ws[q0]? = some (a, .inr (ci, fs))) {v : Value} {ty : FieldType} (hty : tf k = ty) (hn : narrow ty v = v) (hfit : fits ty v = true) (hl : k < fs.length) (hw : ws.set q0 (a, .inr (ci, fs.set k v)) = ws') (hd : decode cc pc = .ok (.putfield idx, 3))
    (kk : ∀ (H1 : Heap) (locs1 : List Loc), XH D A H0 ws' H1 locs1 → W p l e R s m args below meth c H1 locs1 cells slots Q (F0 m (pc + 3) ls rest)) : W p l e R s m args below meth c H locs cells slots Q (F0 m pc ls (v :: .ref a :: rest)) := by
  subst hw
  exact va_put (D := D) (C := q.1) (T := q.2.1) (N := q.2.2) C.1.1 C.1.2.1 C.1.2.2.2.2 (fun w hw => List.mem_cons_of_mem _ (f.2.2.2 w hw)) tf g.1 g.2 C.1.2.2.2.1 C.2 h.1 h.2.1 h.2.2.1 q0 he f.1 k f.2.1 (C.1.2.2.2.2 _ (List.mem_cons_of_mem _ f.2.2.1)) (fun _ h9 => h9) hfin (hty ▸ g.1 k f.2.1) hn hfit hl hd (fun H1 locs1 a1 a2 a3 => kk H1 locs1 ⟨a1, a2, a3, h.2.2.2⟩)
theorem x_puti (C : XC p s m args c cc nL own w0 D tys) (h : XH D A H0 ws H locs) {idx ci k : Nat} {q : vw_C} (f : XF own idx ci k q) {tf : Nat → FieldType} (g : XP q tf) (hfin : (q.2.1 k).2.2.2 = false) (q0 : Nat) {a : Nat} {fs : List Value} (he : ws[q0]? = some (a, .inr (ci, fs))) {z : Int} (hty : tf k = .int) (hl : k < fs.length) (hw : ws.set q0 (a, .inr (ci, fs.set k (iv z))) = ws') (hd : decode cc pc = .ok (.putfield idx, 3))
    (kk : ∀ (H1 : Heap) (locs1 : List Loc), XH D A H0 ws' H1 locs1 → W p l e R s m args below meth c H1 locs1 cells slots Q (F0 m (pc + 3) ls rest)) : W p l e R s m args below meth c H locs cells slots Q (F0 m pc ls (iv z :: .ref a :: rest)) := x_put C h f g hfin q0 he hty rfl rfl hl hw hd kk
theorem x_putl (C : XC p s m args c cc nL own w0 D tys) (h : XH D A H0 ws H locs) {idx ci k : Nat} {q : vw_C} (f : XF own idx ci k q) {tf : Nat → FieldType} (g : XP q tf) (hfin : (q.2.1 k).2.2.2 = false) (q0 : Nat) {a : Nat} {fs : List Value} (he : ws[q0]? = some (a, .inr (ci, fs))) {z : BitVec 64} (hty : tf k = .long) (hl : k < fs.length) (hw : ws.set q0 (a, .inr (ci, fs.set k (lv z))) = ws') (hd : decode cc pc = .ok (.putfield idx, 3))
    (kk : ∀ (H1 : Heap) (locs1 : List Loc), XH D A H0 ws' H1 locs1 → W p l e R s m args below meth c H1 locs1 cells slots Q (F0 m (pc + 3) ls rest)) : W p l e R s m args below meth c H locs cells slots Q (F0 m pc ls (lv z :: .ref a :: rest)) := x_put C h f g hfin q0 he hty rfl rfl hl hw hd kk
/-! arrays -/
theorem x_cl {i : Int} {n : Nat} (h : 0 ≤ i ∧ i < n) (hn : n < 2147483648) : (((Int32.ofInt i).toNatClampNeg : Nat) : Int) = i := by
  rw [x_clamp h.1 (by omega)]; omega
theorem x_upd {α : Type} (f : Int → α) (g : α → Int32) {i : Int} (h0 : 0 ≤ i) (x : α) : upd (fun j : Nat => g (f (j : Int))) i.toNat (g x) = fun j : Nat => g (upi f i x (j : Int)) := by
  funext j
  unfold upd upi
  by_cases hj : j = i.toNat
  · rw [if_pos hj, if_pos (by omega)]
  · rw [if_neg hj, if_neg (by omega)]
theorem x_updL {α : Type} (f : Int → α) (g : α → Int64) {i : Int} (h0 : 0 ≤ i) (x : α) : vp_updL (fun j : Nat => g (f (j : Int))) i.toNat (g x) = fun j : Nat => g (upi f i x (j : Int)) := by
  funext j
  unfold vp_updL upi
  by_cases hj : j = i.toNat
  · rw [if_pos hj, if_pos (by omega)]
  · rw [if_neg hj, if_neg (by omega)]
theorem x_iald (C : XC p s m args c cc nL own w0 D tys) (h : XH D A H0 ws H locs) (q0 t0 : Nat) {a : Nat} {cA : ClassId} {n : Nat} {f : Int → Int} (ha : ws[q0]? = some (a, aI cA n f)) (ht : tys[t0]? = some (cA, .int)) (hs : n < 2147483648) {i : Int} (hin : 0 ≤ i ∧ i < n) (hd : decode cc pc = .ok (.iaload, 1))
    (kk : W p l e R s m args below meth c H locs cells slots Q (F0 m (pc + 1) ls (iv (f i) :: rest))) : W p l e R s m args below meth c H locs cells slots Q (F0 m pc ls (iv i :: .ref a :: rest)) :=
  va_iald C.1.1 C.1.2.1 C.2 h.1 q0 t0 ha ht (x_in hin hs) hd (by rw [x_cl hin hs]; exact kk)
theorem x_zald (C : XC p s m args c cc nL own w0 D tys) (h : XH D A H0 ws H locs) (q0 t0 : Nat) {a : Nat} {cA : ClassId} {n : Nat} {f : Int → Int} (ha : ws[q0]? = some (a, aI cA n f)) (ht : tys[t0]? = some (cA, .boolean)) (hs : n < 2147483648) {i : Int} (hin : 0 ≤ i ∧ i < n) (hd : decode cc pc = .ok (.baload, 1))
    (kk : W p l e R s m args below meth c H locs cells slots Q (F0 m (pc + 1) ls (iv (f i) :: rest))) : W p l e R s m args below meth c H locs cells slots Q (F0 m pc ls (iv i :: .ref a :: rest)) :=
  va_zald C.1.1 C.1.2.1 C.2 h.1 q0 t0 ha ht (x_in hin hs) hd (by rw [x_cl hin hs]; exact kk)
theorem x_lald (C : XC p s m args c cc nL own w0 D tys) (h : XH D A H0 ws H locs) (q0 t0 : Nat) {a : Nat} {cA : ClassId} {n : Nat} {f : Int → BitVec 64} (ha : ws[q0]? = some (a, aJ cA n f)) (ht : tys[t0]? = some (cA, .long)) (hs : n < 2147483648) {i : Int} (hin : 0 ≤ i ∧ i < n) (hd : decode cc pc = .ok (.laload, 1))
    (kk : W p l e R s m args below meth c H locs cells slots Q (F0 m (pc + 1) ls (lv (f i) :: rest))) : W p l e R s m args below meth c H locs cells slots Q (F0 m pc ls (iv i :: .ref a :: rest)) :=
  va_lald C.1.1 C.1.2.1 C.2 h.1 q0 t0 ha ht (x_in hin hs) hd (by rw [x_cl hin hs]; exact kk)
theorem x_iast (C : XC p s m args c cc nL own w0 D tys) (h : XH D A H0 ws H locs) (q0 t0 : Nat) {a : Nat} {cA : ClassId} {n : Nat} {f f' : Int → Int} (ha : ws[q0]? = some (a, aI cA n f)) (ht : tys[t0]? = some (cA, .int)) (hs : n < 2147483648) {i x : Int} (hin : 0 ≤ i ∧ i < n) (hf : f' = upi f i x) (hw : ws.set q0 (a, aI cA n f') = ws') (hd : decode cc pc = .ok (.iastore, 1))
    (kk : ∀ (H1 : Heap) (locs1 : List Loc), XH D A H0 ws' H1 locs1 → W p l e R s m args below meth c H1 locs1 cells slots Q (F0 m (pc + 1) ls rest)) : W p l e R s m args below meth c H locs cells slots Q (F0 m pc ls (iv x :: iv i :: .ref a :: rest)) := by
  subst hw; subst hf
  refine va_iast C.1.1 C.1.2.1 C.2 h.1 h.2.1 h.2.2.1 q0 t0 ha ht (x_in hin hs) hd (fun H1 locs1 a1 a2 a3 => kk H1 locs1 ⟨?_, ?_, a3, h.2.2.2⟩)
  · rw [x_clamp hin.1 (by omega), x_upd f Int32.ofInt hin.1] at a1; exact a1
  · rw [x_clamp hin.1 (by omega), x_upd f Int32.ofInt hin.1] at a2; exact a2
theorem x_zn {x : Int} (h : x = 0 ∨ x = 1) : vp_nar .boolean (Int32.ofInt x) = Int32.ofInt x := by
  rcases h with rfl | rfl <;> decide
theorem x_zast (C : XC p s m args c cc nL own w0 D tys) (h : XH D A H0 ws H locs) (q0 t0 : Nat) {a : Nat} {cA : ClassId} {n : Nat} {f f' : Int → Int} (ha : ws[q0]? = some (a, aI cA n f)) (ht : tys[t0]? = some (cA, .boolean)) (hs : n < 2147483648) {i x : Int} (hin : 0 ≤ i ∧ i < n) (hx : x = 0 ∨ x = 1) (hf : f' = upi f i x) (hw : ws.set q0 (a, aI cA n f') = ws') (hd : decode cc pc = .ok (.bastore, 1))
    (kk : ∀ (H1 : Heap) (locs1 : List Loc), XH D A H0 ws' H1 locs1 → W p l e R s m args below meth c H1 locs1 cells slots Q (F0 m (pc + 1) ls rest)) : W p l e R s m args below meth c H locs cells slots Q (F0 m pc ls (iv x :: iv i :: .ref a :: rest)) := by
  subst hw; subst hf
  refine va_zast C.1.1 C.1.2.1 C.2 h.1 h.2.1 h.2.2.1 q0 t0 ha ht (x_in hin hs) hd (fun H1 locs1 a1 a2 a3 => kk H1 locs1 ⟨?_, ?_, a3, h.2.2.2⟩)
  · rw [x_clamp hin.1 (by omega), x_zn hx, x_upd f Int32.ofInt hin.1] at a1; exact a1
  · rw [x_clamp hin.1 (by omega), x_zn hx, x_upd f Int32.ofInt hin.1] at a2; exact a2
theorem x_last (C : XC p s m args c cc nL own w0 D tys) (h : XH D A H0 ws H locs) (q0 t0 : Nat) {a : Nat} {cA : ClassId} {n : Nat} {f f' : Int → BitVec 64} (ha : ws[q0]? = some (a, aJ cA n f)) (ht : tys[t0]? = some (cA, .long)) (hs : n < 2147483648) {i : Int} {x : BitVec 64} (hin : 0 ≤ i ∧ i < n) (hf : f' = upi f i x) (hw : ws.set q0 (a, aJ cA n f') = ws') (hd : decode cc pc = .ok (.lastore, 1))
    (kk : ∀ (H1 : Heap) (locs1 : List Loc), XH D A H0 ws' H1 locs1 → W p l e R s m args below meth c H1 locs1 cells slots Q (F0 m (pc + 1) ls rest)) : W p l e R s m args below meth c H locs cells slots Q (F0 m pc ls (lv x :: iv i :: .ref a :: rest)) := by
  subst hw; subst hf
  refine va_last C.1.1 C.1.2.1 C.2 h.1 h.2.1 h.2.2.1 q0 t0 ha ht (x_in hin hs) hd (fun H1 locs1 a1 a2 a3 => kk H1 locs1 ⟨?_, ?_, a3, h.2.2.2⟩)
  · rw [x_clamp hin.1 (by omega), x_updL f Int64.ofBitVec hin.1] at a1; exact a1
  · rw [x_clamp hin.1 (by omega), x_updL f Int64.ofBitVec hin.1] at a2; exact a2
/-! Math -/
theorem x_mmax (C : XC p s m args c cc nL own w0 D tys) {lw : List (Nat × Value)} (hl : lv_has ls nL lw) {idx : Nat} (hlk : Cond.methodLink own idx Lib.Math.max.name ∈ TT) (hR : 1 ≤ R.frames ∧ (rest.map fun v => v.category).sum + 13 ≤ R.locals) (hc : cells ≤ R.cells) (hs : slots ≤ R.slots) {a b : Int} (ha : xR a) (hb : xR b) (hd : decode cc pc = .ok (.invokestatic idx, 3))
    (kk : W p l e R s m args below meth c H locs cells slots Q (F0 m (pc + 3) ls (iv (max a b) :: rest))) : W p l e R s m args below meth c H locs cells slots Q (F0 m pc ls (iv b :: iv a :: rest)) := by
  refine va_mmax C.1.1 C.1.2.1 (by rw [hl.1]; exact C.1.2.2.1) C.1.2.2.2.1 (C.1.2.2.2.2 _ (List.mem_cons_of_mem _ hlk)) (C.1.2.2.2.2 _ (List.mem_cons_of_mem _ wm_max_s)) (C.1.2.2.2.2 _ (List.mem_cons_of_mem _ wi_J9)) (C.1.2.2.2.2 _ (List.mem_cons_of_mem _ wm_max_c)) hR.1 hR.2 hc hs hd ?_
  have e1 : (if Int32.ofInt a < Int32.ofInt b then Int32.ofInt b else Int32.ofInt a) = Int32.ofInt (max a b) := by
    by_cases hq : a < b
    · rw [if_pos ((x_lt ha hb).mpr hq), Int.max_eq_right (by omega)]
    · rw [if_neg (fun h => hq ((x_lt ha hb).mp h)), Int.max_eq_left (by omega)]
  rw [e1]; exact kk
theorem x_mmin (C : XC p s m args c cc nL own w0 D tys) {lw : List (Nat × Value)} (hl : lv_has ls nL lw) {idx : Nat} (hlk : Cond.methodLink own idx Lib.Math.min.name ∈ TT) (hR : 1 ≤ R.frames ∧ (rest.map fun v => v.category).sum + 13 ≤ R.locals) (hc : cells ≤ R.cells) (hs : slots ≤ R.slots) {a b : Int} (ha : xR a) (hb : xR b) (hd : decode cc pc = .ok (.invokestatic idx, 3))
    (kk : W p l e R s m args below meth c H locs cells slots Q (F0 m (pc + 3) ls (iv (min a b) :: rest))) : W p l e R s m args below meth c H locs cells slots Q (F0 m pc ls (iv b :: iv a :: rest)) := by
  refine va_mmin C.1.1 C.1.2.1 (by rw [hl.1]; exact C.1.2.2.1) C.1.2.2.2.1 (C.1.2.2.2.2 _ (List.mem_cons_of_mem _ hlk)) (C.1.2.2.2.2 _ (List.mem_cons_of_mem _ wm_min_s)) (C.1.2.2.2.2 _ (List.mem_cons_of_mem _ wi_J9)) (C.1.2.2.2.2 _ (List.mem_cons_of_mem _ wm_min_c)) hR.1 hR.2 hc hs hd ?_
  have e1 : (if Int32.ofInt b < Int32.ofInt a then Int32.ofInt b else Int32.ofInt a) = Int32.ofInt (min a b) := by
    by_cases hq : b < a
    · rw [if_pos ((x_lt hb ha).mpr hq), Int.min_eq_right (by omega)]
    · rw [if_neg (fun h => hq ((x_lt hb ha).mp h)), Int.min_eq_left (by omega)]
  rw [e1]; exact kk
/-! contracts -/
def xPc (D : va_G) (tys : List (ClassId × FieldType)) (As : List Value) (wc : va_W) (sz : Nat) : Array Value → State → Prop := va_Pc As (fun U => U.heap.size = sz ∧ va_P D vwCl wc U.heap ∧ va_K D vwCl tys U ∧ va_D (fun _ => True) wc)
def xB (D : va_G) (tys : List (ClassId × FieldType)) (wc' : va_W) : Unit → State → Prop := fun _ t => va_P D vwCl wc' t.heap ∧ va_K D vwCl tys t
def CoI (l : Launch) (D : va_G) (tys : List (ClassId × FieldType)) (y : MethodName) (bytes : ByteArray) (maxL : Nat) (ret : Option FieldType) (rm : Room) (As : List Value) (wc : va_W) (r : Int) (wc' : va_W) : Prop := rm.cells = 0 ∧ rm.slots = 0 ∧ ∀ sz, Met l y (.code y bytes maxL ret :: TT) rm (xPc D tys As wc sz) (va_Qi (fun (v : Int32) (_ : Unit) => v = Int32.ofInt r) (xB D tys wc') (va_A wc sz)) 0 0 (va_A wc sz)
def CoL (l : Launch) (D : va_G) (tys : List (ClassId × FieldType)) (y : MethodName) (bytes : ByteArray) (maxL : Nat) (ret : Option FieldType) (rm : Room) (As : List Value) (wc : va_W) (r : BitVec 64) (wc' : va_W) : Prop := rm.cells = 0 ∧ rm.slots = 0 ∧ ∀ sz, Met l y (.code y bytes maxL ret :: TT) rm (xPc D tys As wc sz) (va_Ql (fun (v : Int64) (_ : Unit) => v = Int64.ofBitVec r) (xB D tys wc') (va_A wc sz)) 0 0 (va_A wc sz)
def CoV (l : Launch) (D : va_G) (tys : List (ClassId × FieldType)) (y : MethodName) (bytes : ByteArray) (maxL : Nat) (ret : Option FieldType) (rm : Room) (As : List Value) (wc : va_W) (wc' : va_W) : Prop := rm.cells = 0 ∧ rm.slots = 0 ∧ ∀ sz, Met l y (.code y bytes maxL ret :: TT) rm (xPc D tys As wc sz) (va_Qv (fun (_ : Unit) => True) (xB D tys wc') (va_A wc sz)) 0 0 (va_A wc sz)
/-- the end of a method: what its return wants -/
def XRI (p : Program) (l : Launch) (e : Env) (R : Room) (s : State) (m : MethodId) (args : Array Value) (below : List Frame) (meth : Method) (c : Code) (cc : ByteArray) (D : va_G) (A : Nat → Prop) (H0 : Heap) (Q : State → Prop) (r : Int) (wc' : va_W) : Prop := ∀ (pc : Nat) (ls : Array Slot) (H : Heap) (locs : List Loc), decode cc pc = .ok (.ireturn, 1) → XH D A H0 wc' H locs → W p l e R s m args below meth c H locs 0 0 Q (F0 m pc ls [iv r])
def XRZ (p : Program) (l : Launch) (e : Env) (R : Room) (s : State) (m : MethodId) (args : Array Value) (below : List Frame) (meth : Method) (c : Code) (cc : ByteArray) (D : va_G) (A : Nat → Prop) (H0 : Heap) (Q : State → Prop) (r : Int) (wc' : va_W) : Prop := ∀ (pc : Nat) (ls : Array Slot) (H : Heap) (locs : List Loc), (r = 0 ∨ r = 1) → decode cc pc = .ok (.ireturn, 1) → XH D A H0 wc' H locs → W p l e R s m args below meth c H locs 0 0 Q (F0 m pc ls [iv r])
def XRL (p : Program) (l : Launch) (e : Env) (R : Room) (s : State) (m : MethodId) (args : Array Value) (below : List Frame) (meth : Method) (c : Code) (cc : ByteArray) (D : va_G) (A : Nat → Prop) (H0 : Heap) (Q : State → Prop) (r : BitVec 64) (wc' : va_W) : Prop := ∀ (pc : Nat) (ls : Array Slot) (H : Heap) (locs : List Loc), decode cc pc = .ok (.lreturn, 1) → XH D A H0 wc' H locs → W p l e R s m args below meth c H locs 0 0 Q (F0 m pc ls [lv r])
def XRV (p : Program) (l : Launch) (e : Env) (R : Room) (s : State) (m : MethodId) (args : Array Value) (below : List Frame) (meth : Method) (c : Code) (cc : ByteArray) (D : va_G) (A : Nat → Prop) (H0 : Heap) (Q : State → Prop) (wc' : va_W) : Prop := ∀ (pc : Nat) (ls : Array Slot) (H : Heap) (locs : List Loc), decode cc pc = .ok (.return_, 1) → XH D A H0 wc' H locs → W p l e R s m args below meth c H locs 0 0 Q (F0 m pc ls [])
end XROWS
end
section
/-! ===== contracts out of walks; calls ===== -/
theorem co_i {l : Launch} {D : va_G} {tys : List (ClassId × FieldType)} {y : MethodName} {bytes : ByteArray} {maxL : Nat} {rm : Room} {As : List Value} {wc : va_W} {r : Int} {wc' : va_W} (hy : plainName y.cls = true) (hrc : rm.cells = 0 ∧ rm.slots = 0) (hn : (lg_sl As).length ≤ maxL)
    (body : ∀ (p : Program) (e : Env) (s : State) (m : MethodId) (args : Array Value) (below : List Frame) (meth : Method) (c : Code) (A : Nat → Prop) (Q : State → Prop) (ls : Array Slot), XC p s m args c bytes maxL y.cls (.code y bytes maxL (some .int)) D tys → XRI p l e rm s m args below meth c bytes D A s.heap Q r wc' → lv_has ls maxL (lv_args 0 As) → XH D A s.heap wc s.heap [] → W p l e rm s m args below meth c s.heap [] 0 0 Q (F0 m 0 ls [])) :
    CoI l D tys y bytes maxL (some .int) rm As wc r wc' := by
  refine ⟨hrc.1, hrc.2, fun sz => Met.ofW (cc := bytes) (maxL := maxL) (ret := some .int) hy rfl ?_⟩
  intro p e s m args below meth c s₁ B hml hv
  obtain ⟨rfl, hsz, hP, hK, hD0⟩ := hv
  have hts := atoms_spec (ws := Cond.code y bytes maxL (some .int) :: TT) B.pre
  have hown : s.vm.findClass y.cls = some m.cls := findClass_of_methodNamed B.named
  subst hsz
  have hD := hD0.self (sz := s.heap.size)
  rw [lg_entry_eq]
  refine body p e s m _ below meth c (va_A wc s.heap.size) _ _ ⟨⟨B.exec, B.bytes, hml, hown, hts⟩, hK⟩ (fun pc ls H locs hd h => ?_) (lv_entry As hn) ⟨hP, hD, va_S.rf, fun q h => Or.inr h⟩
  exact W.iret B.exec B.bytes B.returns (fun t ht hW => ⟨⟨_, (), rfl, rfl, by rw [ht]; exact h.1, va_K.moved hW.alike hK⟩, h.2.2.1.F ht⟩) h.2.2.1.2.2 hd B.notSynchronized
theorem co_z {l : Launch} {D : va_G} {tys : List (ClassId × FieldType)} {y : MethodName} {bytes : ByteArray} {maxL : Nat} {rm : Room} {As : List Value} {wc : va_W} {r : Int} {wc' : va_W} (hy : plainName y.cls = true) (hrc : rm.cells = 0 ∧ rm.slots = 0) (hn : (lg_sl As).length ≤ maxL)
    (body : ∀ (p : Program) (e : Env) (s : State) (m : MethodId) (args : Array Value) (below : List Frame) (meth : Method) (c : Code) (A : Nat → Prop) (Q : State → Prop) (ls : Array Slot), XC p s m args c bytes maxL y.cls (.code y bytes maxL (some .boolean)) D tys → XRZ p l e rm s m args below meth c bytes D A s.heap Q r wc' → lv_has ls maxL (lv_args 0 As) → XH D A s.heap wc s.heap [] → W p l e rm s m args below meth c s.heap [] 0 0 Q (F0 m 0 ls [])) :
    CoI l D tys y bytes maxL (some .boolean) rm As wc r wc' := by
  refine ⟨hrc.1, hrc.2, fun sz => Met.ofW (cc := bytes) (maxL := maxL) (ret := some .boolean) hy rfl ?_⟩
  intro p e s m args below meth c s₁ B hml hv
  obtain ⟨rfl, hsz, hP, hK, hD0⟩ := hv
  have hts := atoms_spec (ws := Cond.code y bytes maxL (some .boolean) :: TT) B.pre
  have hown : s.vm.findClass y.cls = some m.cls := findClass_of_methodNamed B.named
  subst hsz
  have hD := hD0.self (sz := s.heap.size)
  rw [lg_entry_eq]
  refine body p e s m _ below meth c (va_A wc s.heap.size) _ _ ⟨⟨B.exec, B.bytes, hml, hown, hts⟩, hK⟩ (fun pc ls H locs hz hd h => ?_) (lv_entry As hn) ⟨hP, hD, va_S.rf, fun q h => Or.inr h⟩
  have hz2 : narrow .boolean (.int (Int32.ofInt r)) = .int (Int32.ofInt r) := by rcases hz with hz | hz <;> rw [hz] <;> decide
  exact W.zret B.exec B.bytes B.returns hz2 (fun t ht hW => ⟨⟨_, (), rfl, rfl, by rw [ht]; exact h.1, va_K.moved hW.alike hK⟩, h.2.2.1.F ht⟩) h.2.2.1.2.2 hd B.notSynchronized
theorem co_l {l : Launch} {D : va_G} {tys : List (ClassId × FieldType)} {y : MethodName} {bytes : ByteArray} {maxL : Nat} {rm : Room} {As : List Value} {wc : va_W} {r : BitVec 64} {wc' : va_W} (hy : plainName y.cls = true) (hrc : rm.cells = 0 ∧ rm.slots = 0) (hn : (lg_sl As).length ≤ maxL)
    (body : ∀ (p : Program) (e : Env) (s : State) (m : MethodId) (args : Array Value) (below : List Frame) (meth : Method) (c : Code) (A : Nat → Prop) (Q : State → Prop) (ls : Array Slot), XC p s m args c bytes maxL y.cls (.code y bytes maxL (some .long)) D tys → XRL p l e rm s m args below meth c bytes D A s.heap Q r wc' → lv_has ls maxL (lv_args 0 As) → XH D A s.heap wc s.heap [] → W p l e rm s m args below meth c s.heap [] 0 0 Q (F0 m 0 ls [])) :
    CoL l D tys y bytes maxL (some .long) rm As wc r wc' := by
  refine ⟨hrc.1, hrc.2, fun sz => Met.ofW (cc := bytes) (maxL := maxL) (ret := some .long) hy rfl ?_⟩
  intro p e s m args below meth c s₁ B hml hv
  obtain ⟨rfl, hsz, hP, hK, hD0⟩ := hv
  have hts := atoms_spec (ws := Cond.code y bytes maxL (some .long) :: TT) B.pre
  have hown : s.vm.findClass y.cls = some m.cls := findClass_of_methodNamed B.named
  subst hsz
  have hD := hD0.self (sz := s.heap.size)
  rw [lg_entry_eq]
  refine body p e s m _ below meth c (va_A wc s.heap.size) _ _ ⟨⟨B.exec, B.bytes, hml, hown, hts⟩, hK⟩ (fun pc ls H locs hd h => ?_) (lv_entry As hn) ⟨hP, hD, va_S.rf, fun q h => Or.inr h⟩
  exact W.lret B.exec B.bytes B.returns (fun t ht hW => ⟨⟨_, (), rfl, rfl, by rw [ht]; exact h.1, va_K.moved hW.alike hK⟩, h.2.2.1.F ht⟩) h.2.2.1.2.2 hd B.notSynchronized
theorem co_v {l : Launch} {D : va_G} {tys : List (ClassId × FieldType)} {y : MethodName} {bytes : ByteArray} {maxL : Nat} {rm : Room} {As : List Value} {wc : va_W} {wc' : va_W} (hy : plainName y.cls = true) (hrc : rm.cells = 0 ∧ rm.slots = 0) (hn : (lg_sl As).length ≤ maxL)
    (body : ∀ (p : Program) (e : Env) (s : State) (m : MethodId) (args : Array Value) (below : List Frame) (meth : Method) (c : Code) (A : Nat → Prop) (Q : State → Prop) (ls : Array Slot), XC p s m args c bytes maxL y.cls (.code y bytes maxL none) D tys → XRV p l e rm s m args below meth c bytes D A s.heap Q wc' → lv_has ls maxL (lv_args 0 As) → XH D A s.heap wc s.heap [] → W p l e rm s m args below meth c s.heap [] 0 0 Q (F0 m 0 ls [])) :
    CoV l D tys y bytes maxL none rm As wc wc' := by
  refine ⟨hrc.1, hrc.2, fun sz => Met.ofW (cc := bytes) (maxL := maxL) (ret := none) hy rfl ?_⟩
  intro p e s m args below meth c s₁ B hml hv
  obtain ⟨rfl, hsz, hP, hK, hD0⟩ := hv
  have hts := atoms_spec (ws := Cond.code y bytes maxL none :: TT) B.pre
  have hown : s.vm.findClass y.cls = some m.cls := findClass_of_methodNamed B.named
  subst hsz
  have hD := hD0.self (sz := s.heap.size)
  rw [lg_entry_eq]
  refine body p e s m _ below meth c (va_A wc s.heap.size) _ _ ⟨⟨B.exec, B.bytes, hml, hown, hts⟩, hK⟩ (fun pc ls H locs hd h => ?_) (lv_entry As hn) ⟨hP, hD, va_S.rf, fun q h => Or.inr h⟩
  exact W.vret B.exec B.bytes B.returns (fun t ht hW => ⟨⟨(), rfl, trivial, by rw [ht]; exact h.1, va_K.moved hW.alike hK⟩, h.2.2.1.F ht⟩) h.2.2.1.2.2 hd B.notSynchronized
section XCALLS
variable {p : Program} {l : Launch} {e : Env} {R : Room} {s : State} {m : MethodId} {args : Array Value} {below : List Frame} {meth : Method} {c : Code} {H : Heap} {locs : List Loc} {Q : State → Prop}
variable {cc : ByteArray} {nL : Nat} {own : String} {w0 : Cond} {D : va_G} {tys : List (ClassId × FieldType)} {pc : Nat} {ls : Array Slot} {rest st : List Value} {A : Nat → Prop} {H0 : Heap} {ws ws' wc wc' : va_W}
variable {y : MethodName} {bytes : ByteArray} {maxL n idx : Nat} {ret : Option FieldType} {rm : Room} {As : List Value} {b : Nat}
theorem x_gd (w0 : Cond) {cw : Cond} (h : cw ∈ TT) : GoodIn (w0 :: TT) (cw :: TT) := fun w hw => by
  have h1 : w ∈ TT := (List.mem_cons.mp hw).elim (fun e => e ▸ h) id
  exact ⟨List.mem_cons_of_mem _ h1, tt_gd h1⟩
theorem x_cw (hts : ∀ w ∈ w0 :: TT, w.before args s = true) (hy : XV y bytes maxL ret n) (hlk : Cond.methodLink own idx y ∈ TT) (hrm : rm.cells = 0 ∧ rm.slots = 0) (hR : rm.frames + 1 ≤ R.frames ∧ 8 + (maxL + 11) + rm.locals ≤ R.locals) : CallW R s args own y.cls idx y bytes maxL ret (.code y bytes maxL ret :: TT) rm 0 0 n :=
  ⟨callB_of n hts (x_gd w0 hy.2.2.2.1) rfl hrm.1 hrm.2 (hts _ (List.mem_cons_of_mem _ hy.2.2.1)) (hts _ (List.mem_cons_of_mem _ hlk)) hy.2.2.2.2 hR, hts _ (List.mem_cons_of_mem _ hy.1), hts _ (List.mem_cons_of_mem _ hy.2.1)⟩
theorem x_cs (hts : ∀ w ∈ w0 :: TT, w.before args s = true) (hy : XS y bytes maxL ret n) (hlk : Cond.methodLink own idx y ∈ TT) (hrm : rm.cells = 0 ∧ rm.slots = 0) (hR : rm.frames + 1 ≤ R.frames ∧ 8 + (maxL + 11) + rm.locals ≤ R.locals) : CallB R s args own idx y bytes maxL ret (.code y bytes maxL ret :: TT) rm 0 0 n ∧ (Cond.static y).before args s = true :=
  ⟨callB_of n hts (x_gd w0 hy.2.2.1) rfl hrm.1 hrm.2 (hts _ (List.mem_cons_of_mem _ hy.2.1)) (hts _ (List.mem_cons_of_mem _ hlk)) hy.2.2.2 hR, hts _ (List.mem_cons_of_mem _ hy.1)⟩
theorem x_blind (D : va_G) (tys : List (ClassId × FieldType)) (As : List Value) (wc : va_W) (sz : Nat) : FrameBlind (xPc D tys As wc sz) := fun a U g mk q => by
  obtain ⟨q0, q1, qP, qK, qD⟩ := q
  exact ⟨q0, q1, qP, va_K.moved (u := U) (U := U.calling g mk a) (Vm.Alike.refl U.vm) qK, qD⟩
theorem x_callVi (C : XC p s m args c cc nL own w0 D tys) (h : XH D A H0 ws H locs) {lw : List (Nat × Value)} (hl : lv_has ls nL lw) {r : Int} (hM : CoI l D tys y bytes maxL ret rm (.ref b :: As) wc r wc') (hy : XV y bytes maxL ret n) (hlk : Cond.methodLink own idx y ∈ TT) (hR : rm.frames + 1 ≤ R.frames ∧ 8 + (maxL + 11) + rm.locals ≤ R.locals) (hn : As.length = n)
    (isC : List Nat) (hC : isC.map (fun i => ws[i]?) = wc.map some) (hnd : va_nd isC = true) (ha : wc'.map Prod.fst = wc.map Prod.fst) (hw : wput ws isC wc' = ws') (qb : Nat) {ci : Nat} {fs : List Value} {q : vw_C} (he : ws[qb]? = some (b, .inr (ci, fs))) (hq : vwCl[ci]? = some q) (hqc : q.1 = y.cls) (hst : st = As.reverse ++ .ref b :: rest) (hW : (rest.map fun v => v.category).sum ≤ 8) (hd : decode cc pc = .ok (.invokevirtual idx, 3))
    (kk : ∀ (H1 : Heap) (locs1 : List Loc), XH D A H0 ws' H1 locs1 → W p l e R s m args below meth c H1 locs1 0 0 Q (F0 m (pc + 3) ls (iv r :: rest))) : W p l e R s m args below meth c H locs 0 0 Q (F0 m pc ls st) := by
  subst hw; subst hst
  obtain ⟨hc1, hc2, hM⟩ := hM
  obtain ⟨hPc, hDc, hFc⟩ := h.cut isC hC hnd
  have hrv := va_recv C.2 h.1 hq he
  rw [hqc] at hrv
  refine va_calli (va_runV C.1 (hM H.size) (x_cw C.1.2.2.2.2 hy hlk ⟨hc1, hc2⟩ hR) ⟨x_blind _ _ _ _ _, hrv, fun U hU hW => ⟨rfl, by rw [hU], by rw [hU]; exact hPc, va_K.moved hW.alike C.2, hDc⟩⟩ rfl hn hl.1 rfl (lv_room hW) hd ⟨Nat.zero_le _, Nat.zero_le _⟩) h.2.2.1 (fun q _ h => hFc q h) hFc (fun r1 u t H1 locs1 ht hvm hw hB hz1 hk1 hS1 => ?_)
  obtain ⟨hP1, -⟩ := hB
  rw [ht] at hP1
  subst hw
  exact kk H1 locs1 (h.after isC hC ha hk1 hP1 hS1)
theorem x_callVl (C : XC p s m args c cc nL own w0 D tys) (h : XH D A H0 ws H locs) {lw : List (Nat × Value)} (hl : lv_has ls nL lw) {r : BitVec 64} (hM : CoL l D tys y bytes maxL ret rm (.ref b :: As) wc r wc') (hy : XV y bytes maxL ret n) (hlk : Cond.methodLink own idx y ∈ TT) (hR : rm.frames + 1 ≤ R.frames ∧ 8 + (maxL + 11) + rm.locals ≤ R.locals) (hn : As.length = n)
    (isC : List Nat) (hC : isC.map (fun i => ws[i]?) = wc.map some) (hnd : va_nd isC = true) (ha : wc'.map Prod.fst = wc.map Prod.fst) (hw : wput ws isC wc' = ws') (qb : Nat) {ci : Nat} {fs : List Value} {q : vw_C} (he : ws[qb]? = some (b, .inr (ci, fs))) (hq : vwCl[ci]? = some q) (hqc : q.1 = y.cls) (hst : st = As.reverse ++ .ref b :: rest) (hW : (rest.map fun v => v.category).sum ≤ 8) (hd : decode cc pc = .ok (.invokevirtual idx, 3))
    (kk : ∀ (H1 : Heap) (locs1 : List Loc), XH D A H0 ws' H1 locs1 → W p l e R s m args below meth c H1 locs1 0 0 Q (F0 m (pc + 3) ls (lv r :: rest))) : W p l e R s m args below meth c H locs 0 0 Q (F0 m pc ls st) := by
  subst hw; subst hst
  obtain ⟨hc1, hc2, hM⟩ := hM
  obtain ⟨hPc, hDc, hFc⟩ := h.cut isC hC hnd
  have hrv := va_recv C.2 h.1 hq he
  rw [hqc] at hrv
  refine va_calll (va_runV C.1 (hM H.size) (x_cw C.1.2.2.2.2 hy hlk ⟨hc1, hc2⟩ hR) ⟨x_blind _ _ _ _ _, hrv, fun U hU hW => ⟨rfl, by rw [hU], by rw [hU]; exact hPc, va_K.moved hW.alike C.2, hDc⟩⟩ rfl hn hl.1 rfl (lv_room hW) hd ⟨Nat.zero_le _, Nat.zero_le _⟩) h.2.2.1 (fun q _ h => hFc q h) hFc (fun r1 u t H1 locs1 ht hvm hw hB hz1 hk1 hS1 => ?_)
  obtain ⟨hP1, -⟩ := hB
  rw [ht] at hP1
  subst hw
  exact kk H1 locs1 (h.after isC hC ha hk1 hP1 hS1)
theorem x_callVv (C : XC p s m args c cc nL own w0 D tys) (h : XH D A H0 ws H locs) {lw : List (Nat × Value)} (hl : lv_has ls nL lw) (hM : CoV l D tys y bytes maxL ret rm (.ref b :: As) wc wc') (hy : XV y bytes maxL ret n) (hlk : Cond.methodLink own idx y ∈ TT) (hR : rm.frames + 1 ≤ R.frames ∧ 8 + (maxL + 11) + rm.locals ≤ R.locals) (hn : As.length = n)
    (isC : List Nat) (hC : isC.map (fun i => ws[i]?) = wc.map some) (hnd : va_nd isC = true) (ha : wc'.map Prod.fst = wc.map Prod.fst) (hw : wput ws isC wc' = ws') (qb : Nat) {ci : Nat} {fs : List Value} {q : vw_C} (he : ws[qb]? = some (b, .inr (ci, fs))) (hq : vwCl[ci]? = some q) (hqc : q.1 = y.cls) (hst : st = As.reverse ++ .ref b :: rest) (hW : (rest.map fun v => v.category).sum ≤ 8) (hd : decode cc pc = .ok (.invokevirtual idx, 3))
    (kk : ∀ (H1 : Heap) (locs1 : List Loc), XH D A H0 ws' H1 locs1 → W p l e R s m args below meth c H1 locs1 0 0 Q (F0 m (pc + 3) ls rest)) : W p l e R s m args below meth c H locs 0 0 Q (F0 m pc ls st) := by
  subst hw; subst hst
  obtain ⟨hc1, hc2, hM⟩ := hM
  obtain ⟨hPc, hDc, hFc⟩ := h.cut isC hC hnd
  have hrv := va_recv C.2 h.1 hq he
  rw [hqc] at hrv
  refine va_callv (va_runV C.1 (hM H.size) (x_cw C.1.2.2.2.2 hy hlk ⟨hc1, hc2⟩ hR) ⟨x_blind _ _ _ _ _, hrv, fun U hU hW => ⟨rfl, by rw [hU], by rw [hU]; exact hPc, va_K.moved hW.alike C.2, hDc⟩⟩ rfl hn hl.1 rfl (lv_room hW) hd ⟨Nat.zero_le _, Nat.zero_le _⟩) h.2.2.1 (fun q _ h => hFc q h) hFc (fun u t H1 locs1 ht hvm hw hB hz1 hk1 hS1 => ?_)
  obtain ⟨hP1, -⟩ := hB
  rw [ht] at hP1
  exact kk H1 locs1 (h.after isC hC ha hk1 hP1 hS1)
theorem x_callSi (C : XC p s m args c cc nL own w0 D tys) (h : XH D A H0 ws H locs) {lw : List (Nat × Value)} (hl : lv_has ls nL lw) {r : Int} (hM : CoI l D tys y bytes maxL ret rm As wc r wc') (hy : XS y bytes maxL ret n) (hlk : Cond.methodLink own idx y ∈ TT) (hR : rm.frames + 1 ≤ R.frames ∧ 8 + (maxL + 11) + rm.locals ≤ R.locals) (hn : As.length = n)
    (isC : List Nat) (hC : isC.map (fun i => ws[i]?) = wc.map some) (hnd : va_nd isC = true) (ha : wc'.map Prod.fst = wc.map Prod.fst) (hw : wput ws isC wc' = ws') (hst : st = As.reverse ++ rest) (hW : (rest.map fun v => v.category).sum ≤ 8) (hd : decode cc pc = .ok (.invokestatic idx, 3))
    (kk : ∀ (H1 : Heap) (locs1 : List Loc), XH D A H0 ws' H1 locs1 → W p l e R s m args below meth c H1 locs1 0 0 Q (F0 m (pc + 3) ls (iv r :: rest))) : W p l e R s m args below meth c H locs 0 0 Q (F0 m pc ls st) := by
  subst hw; subst hst
  obtain ⟨hc1, hc2, hM⟩ := hM
  obtain ⟨hPc, hDc, hFc⟩ := h.cut isC hC hnd
  refine va_calli (va_runS C.1 (hM H.size) (x_cs C.1.2.2.2.2 hy hlk ⟨hc1, hc2⟩ hR) ⟨x_blind _ _ _ _ _, fun U hU hW => ⟨rfl, by rw [hU], by rw [hU]; exact hPc, va_K.moved hW.alike C.2, hDc⟩⟩ rfl hn hl.1 rfl (lv_room hW) hd ⟨Nat.zero_le _, Nat.zero_le _⟩) h.2.2.1 (fun q _ h => hFc q h) hFc (fun r1 u t H1 locs1 ht hvm hw hB hz1 hk1 hS1 => ?_)
  obtain ⟨hP1, -⟩ := hB
  rw [ht] at hP1
  subst hw
  exact kk H1 locs1 (h.after isC hC ha hk1 hP1 hS1)
theorem x_callSl (C : XC p s m args c cc nL own w0 D tys) (h : XH D A H0 ws H locs) {lw : List (Nat × Value)} (hl : lv_has ls nL lw) {r : BitVec 64} (hM : CoL l D tys y bytes maxL ret rm As wc r wc') (hy : XS y bytes maxL ret n) (hlk : Cond.methodLink own idx y ∈ TT) (hR : rm.frames + 1 ≤ R.frames ∧ 8 + (maxL + 11) + rm.locals ≤ R.locals) (hn : As.length = n)
    (isC : List Nat) (hC : isC.map (fun i => ws[i]?) = wc.map some) (hnd : va_nd isC = true) (ha : wc'.map Prod.fst = wc.map Prod.fst) (hw : wput ws isC wc' = ws') (hst : st = As.reverse ++ rest) (hW : (rest.map fun v => v.category).sum ≤ 8) (hd : decode cc pc = .ok (.invokestatic idx, 3))
    (kk : ∀ (H1 : Heap) (locs1 : List Loc), XH D A H0 ws' H1 locs1 → W p l e R s m args below meth c H1 locs1 0 0 Q (F0 m (pc + 3) ls (lv r :: rest))) : W p l e R s m args below meth c H locs 0 0 Q (F0 m pc ls st) := by
  subst hw; subst hst
  obtain ⟨hc1, hc2, hM⟩ := hM
  obtain ⟨hPc, hDc, hFc⟩ := h.cut isC hC hnd
  refine va_calll (va_runS C.1 (hM H.size) (x_cs C.1.2.2.2.2 hy hlk ⟨hc1, hc2⟩ hR) ⟨x_blind _ _ _ _ _, fun U hU hW => ⟨rfl, by rw [hU], by rw [hU]; exact hPc, va_K.moved hW.alike C.2, hDc⟩⟩ rfl hn hl.1 rfl (lv_room hW) hd ⟨Nat.zero_le _, Nat.zero_le _⟩) h.2.2.1 (fun q _ h => hFc q h) hFc (fun r1 u t H1 locs1 ht hvm hw hB hz1 hk1 hS1 => ?_)
  obtain ⟨hP1, -⟩ := hB
  rw [ht] at hP1
  subst hw
  exact kk H1 locs1 (h.after isC hC ha hk1 hP1 hS1)
end XCALLS
end
