section
-- ===== PART A: goes FIRST, ahead of the names: the tables' words, and 'selects' of the private methods out of them =====
/-- a private method of a class that the tables say can be made, by its rows of tables_1 -/
def lw_okq (q : MethodName × Nat) : Prop := (q.1.cls ≠ "java/lang/invoke/MethodHandle" ∧ q.1.cls ≠ "java/lang/invoke/VarHandle") ∧ Cond.instantiable q.1.cls q.2 ∈ tables_1 ∧ Cond.privateMethod q.1 ∈ tables_1 ∧ Cond.instanceMethod q.1 ∈ tables_1
theorem lw_p0 : lw_okq (⟨"StackDepths", "isRoutine", "(I)Z"⟩, 10) := ⟨⟨by decide +kernel, by decide +kernel⟩, List.mem_of_getElem? (i := 16) (by decide +kernel), List.mem_of_getElem? (i := 339) (by decide +kernel), List.mem_of_getElem? (i := 340) (by decide +kernel)⟩
theorem lw_p1 : lw_okq (⟨"StackDepths", "refusalOfCall", "(III)I"⟩, 10) := ⟨⟨by decide +kernel, by decide +kernel⟩, List.mem_of_getElem? (i := 16) (by decide +kernel), List.mem_of_getElem? (i := 354) (by decide +kernel), List.mem_of_getElem? (i := 355) (by decide +kernel)⟩
theorem lw_p2 : lw_okq (⟨"StackDepths", "canBeCall", "(III)Z"⟩, 10) := ⟨⟨by decide +kernel, by decide +kernel⟩, List.mem_of_getElem? (i := 16) (by decide +kernel), List.mem_of_getElem? (i := 358) (by decide +kernel), List.mem_of_getElem? (i := 359) (by decide +kernel)⟩
theorem lw_p3 : lw_okq (⟨"StackDepths$Pointers", "spreadGoals", "()V"⟩, 3) := ⟨⟨by decide +kernel, by decide +kernel⟩, List.mem_of_getElem? (i := 48) (by decide +kernel), List.mem_of_getElem? (i := 393) (by decide +kernel), List.mem_of_getElem? (i := 394) (by decide +kernel)⟩
theorem lw_p4 : lw_okq (⟨"StackDepths$Graph", "drawCalls", "()V"⟩, 11) := ⟨⟨by decide +kernel, by decide +kernel⟩, List.mem_of_getElem? (i := 85) (by decide +kernel), List.mem_of_getElem? (i := 421) (by decide +kernel), List.mem_of_getElem? (i := 422) (by decide +kernel)⟩
theorem lw_p5 : lw_okq (⟨"StackDepths$Graph", "closeReach", "()V"⟩, 11) := ⟨⟨by decide +kernel, by decide +kernel⟩, List.mem_of_getElem? (i := 85) (by decide +kernel), List.mem_of_getElem? (i := 426) (by decide +kernel), List.mem_of_getElem? (i := 427) (by decide +kernel)⟩
theorem lw_p6 : lw_okq (⟨"StackDepths$Graph", "gatherTogether", "()V"⟩, 11) := ⟨⟨by decide +kernel, by decide +kernel⟩, List.mem_of_getElem? (i := 85) (by decide +kernel), List.mem_of_getElem? (i := 431) (by decide +kernel), List.mem_of_getElem? (i := 432) (by decide +kernel)⟩
theorem lw_p7 : lw_okq (⟨"StackDepths$Graph", "markRings", "()V"⟩, 11) := ⟨⟨by decide +kernel, by decide +kernel⟩, List.mem_of_getElem? (i := 85) (by decide +kernel), List.mem_of_getElem? (i := 435) (by decide +kernel), List.mem_of_getElem? (i := 436) (by decide +kernel)⟩
theorem lw_p8 : lw_okq (⟨"StackDepths$Graph", "orderLeaders", "()V"⟩, 11) := ⟨⟨by decide +kernel, by decide +kernel⟩, List.mem_of_getElem? (i := 85) (by decide +kernel), List.mem_of_getElem? (i := 439) (by decide +kernel), List.mem_of_getElem? (i := 440) (by decide +kernel)⟩
theorem lw_p9 : lw_okq (⟨"StackDepths$Depths", "depthOfRing", "(I)I"⟩, 4) := ⟨⟨by decide +kernel, by decide +kernel⟩, List.mem_of_getElem? (i := 136) (by decide +kernel), List.mem_of_getElem? (i := 472) (by decide +kernel), List.mem_of_getElem? (i := 473) (by decide +kernel)⟩
theorem lw_p10 : lw_okq (⟨"StackDepths$Depths", "frameOf", "(I)I"⟩, 4) := ⟨⟨by decide +kernel, by decide +kernel⟩, List.mem_of_getElem? (i := 136) (by decide +kernel), List.mem_of_getElem? (i := 476) (by decide +kernel), List.mem_of_getElem? (i := 477) (by decide +kernel)⟩
theorem lw_p11 : lw_okq (⟨"StackDepths$Depths", "greatestOf", "(I)I"⟩, 4) := ⟨⟨by decide +kernel, by decide +kernel⟩, List.mem_of_getElem? (i := 136) (by decide +kernel), List.mem_of_getElem? (i := 480) (by decide +kernel), List.mem_of_getElem? (i := 481) (by decide +kernel)⟩
theorem lw_p12 : lw_okq (⟨"StackDepths$Depths", "depthOfTails", "(I)I"⟩, 4) := ⟨⟨by decide +kernel, by decide +kernel⟩, List.mem_of_getElem? (i := 136) (by decide +kernel), List.mem_of_getElem? (i := 490) (by decide +kernel), List.mem_of_getElem? (i := 491) (by decide +kernel)⟩
theorem lw_p13 : lw_okq (⟨"StackDepths$Depths", "depthOfItself", "(I)I"⟩, 4) := ⟨⟨by decide +kernel, by decide +kernel⟩, List.mem_of_getElem? (i := 136) (by decide +kernel), List.mem_of_getElem? (i := 494) (by decide +kernel), List.mem_of_getElem? (i := 495) (by decide +kernel)⟩
theorem lw_p14 : lw_okq (⟨"StackDepths$Depths", "spread", "(II)V"⟩, 4) := ⟨⟨by decide +kernel, by decide +kernel⟩, List.mem_of_getElem? (i := 136) (by decide +kernel), List.mem_of_getElem? (i := 498) (by decide +kernel), List.mem_of_getElem? (i := 499) (by decide +kernel)⟩
theorem lw_p15 : lw_okq (⟨"StackDepths$Depths", "leastThatTells", "(II)I"⟩, 4) := ⟨⟨by decide +kernel, by decide +kernel⟩, List.mem_of_getElem? (i := 136) (by decide +kernel), List.mem_of_getElem? (i := 514) (by decide +kernel), List.mem_of_getElem? (i := 515) (by decide +kernel)⟩
def lw_privs_1 : List (MethodName × Nat) := [(⟨"StackDepths", "isRoutine", "(I)Z"⟩, 10), (⟨"StackDepths", "refusalOfCall", "(III)I"⟩, 10), (⟨"StackDepths", "canBeCall", "(III)Z"⟩, 10), (⟨"StackDepths$Pointers", "spreadGoals", "()V"⟩, 3), (⟨"StackDepths$Graph", "drawCalls", "()V"⟩, 11), (⟨"StackDepths$Graph", "closeReach", "()V"⟩, 11), (⟨"StackDepths$Graph", "gatherTogether", "()V"⟩, 11), (⟨"StackDepths$Graph", "markRings", "()V"⟩, 11), (⟨"StackDepths$Graph", "orderLeaders", "()V"⟩, 11), (⟨"StackDepths$Depths", "depthOfRing", "(I)I"⟩, 4), (⟨"StackDepths$Depths", "frameOf", "(I)I"⟩, 4), (⟨"StackDepths$Depths", "greatestOf", "(I)I"⟩, 4), (⟨"StackDepths$Depths", "depthOfTails", "(I)I"⟩, 4), (⟨"StackDepths$Depths", "depthOfItself", "(I)I"⟩, 4), (⟨"StackDepths$Depths", "spread", "(II)V"⟩, 4), (⟨"StackDepths$Depths", "leastThatTells", "(II)I"⟩, 4)]
theorem lw_r1 : ∀ q ∈ lw_privs_1, lw_okq q := List.forall_mem_cons.mpr ⟨lw_p0, List.forall_mem_cons.mpr ⟨lw_p1, List.forall_mem_cons.mpr ⟨lw_p2, List.forall_mem_cons.mpr ⟨lw_p3, List.forall_mem_cons.mpr ⟨lw_p4, List.forall_mem_cons.mpr ⟨lw_p5, List.forall_mem_cons.mpr ⟨lw_p6, List.forall_mem_cons.mpr ⟨lw_p7, List.forall_mem_cons.mpr ⟨lw_p8, List.forall_mem_cons.mpr ⟨lw_p9, List.forall_mem_cons.mpr ⟨lw_p10, List.forall_mem_cons.mpr ⟨lw_p11, List.forall_mem_cons.mpr ⟨lw_p12, List.forall_mem_cons.mpr ⟨lw_p13, List.forall_mem_cons.mpr ⟨lw_p14, List.forall_mem_cons.mpr ⟨lw_p15, fun _ h => absurd h List.not_mem_nil⟩⟩⟩⟩⟩⟩⟩⟩⟩⟩⟩⟩⟩⟩⟩⟩
theorem lw_p16 : lw_okq (⟨"StackDepths$Depths", "leastThatHas", "(II)I"⟩, 4) := ⟨⟨by decide +kernel, by decide +kernel⟩, List.mem_of_getElem? (i := 136) (by decide +kernel), List.mem_of_getElem? (i := 518) (by decide +kernel), List.mem_of_getElem? (i := 519) (by decide +kernel)⟩
theorem lw_p17 : lw_okq (⟨"StackDepths", "isTask", "(I)Z"⟩, 10) := ⟨⟨by decide +kernel, by decide +kernel⟩, List.mem_of_getElem? (i := 16) (by decide +kernel), List.mem_of_getElem? (i := 550) (by decide +kernel), List.mem_of_getElem? (i := 551) (by decide +kernel)⟩
theorem lw_p18 : lw_okq (⟨"StackDepths$Interrupts", "greatestAt", "(I[I)I"⟩, 4) := ⟨⟨by decide +kernel, by decide +kernel⟩, List.mem_of_getElem? (i := 156) (by decide +kernel), List.mem_of_getElem? (i := 558) (by decide +kernel), List.mem_of_getElem? (i := 559) (by decide +kernel)⟩
theorem lw_p19 : lw_okq (⟨"StackDepths", "totalAsMeasured", "(I)I"⟩, 10) := ⟨⟨by decide +kernel, by decide +kernel⟩, List.mem_of_getElem? (i := 16) (by decide +kernel), List.mem_of_getElem? (i := 564) (by decide +kernel), List.mem_of_getElem? (i := 565) (by decide +kernel)⟩
theorem lw_p20 : lw_okq (⟨"StackDepths", "roomAsMeasured", "(I)I"⟩, 10) := ⟨⟨by decide +kernel, by decide +kernel⟩, List.mem_of_getElem? (i := 16) (by decide +kernel), List.mem_of_getElem? (i := 569) (by decide +kernel), List.mem_of_getElem? (i := 570) (by decide +kernel)⟩
theorem lw_p21 : lw_okq (⟨"StackDepths", "shareRooms", "()I"⟩, 10) := ⟨⟨by decide +kernel, by decide +kernel⟩, List.mem_of_getElem? (i := 16) (by decide +kernel), List.mem_of_getElem? (i := 585) (by decide +kernel), List.mem_of_getElem? (i := 586) (by decide +kernel)⟩
theorem lw_p22 : lw_okq (⟨"StackDepths$Sharing", "place", "(LStackDepths$Tasks;III)V"⟩, 6) := ⟨⟨by decide +kernel, by decide +kernel⟩, List.mem_of_getElem? (i := 205) (by decide +kernel), List.mem_of_getElem? (i := 594) (by decide +kernel), List.mem_of_getElem? (i := 595) (by decide +kernel)⟩
theorem lw_p23 : lw_okq (⟨"StackDepths$Sharing", "keep", "(I)V"⟩, 6) := ⟨⟨by decide +kernel, by decide +kernel⟩, List.mem_of_getElem? (i := 205) (by decide +kernel), List.mem_of_getElem? (i := 598) (by decide +kernel), List.mem_of_getElem? (i := 599) (by decide +kernel)⟩
theorem lw_p24 : lw_okq (⟨"StackDepths", "totalWithout", "(II)I"⟩, 10) := ⟨⟨by decide +kernel, by decide +kernel⟩, List.mem_of_getElem? (i := 16) (by decide +kernel), List.mem_of_getElem? (i := 613) (by decide +kernel), List.mem_of_getElem? (i := 614) (by decide +kernel)⟩
theorem lw_p25 : lw_okq (⟨"StackDepths", "pushMarked", "(I)I"⟩, 10) := ⟨⟨by decide +kernel, by decide +kernel⟩, List.mem_of_getElem? (i := 16) (by decide +kernel), List.mem_of_getElem? (i := 646) (by decide +kernel), List.mem_of_getElem? (i := 647) (by decide +kernel)⟩
theorem lw_p26 : lw_okq (⟨"StackDepths", "stayedWithinDepth", "()Z"⟩, 10) := ⟨⟨by decide +kernel, by decide +kernel⟩, List.mem_of_getElem? (i := 16) (by decide +kernel), List.mem_of_getElem? (i := 670) (by decide +kernel), List.mem_of_getElem? (i := 671) (by decide +kernel)⟩
theorem lw_p27 : lw_okq (⟨"StackDepths", "addFromSheet", "(LStackDepths$Sheet;II)I"⟩, 10) := ⟨⟨by decide +kernel, by decide +kernel⟩, List.mem_of_getElem? (i := 16) (by decide +kernel), List.mem_of_getElem? (i := 704) (by decide +kernel), List.mem_of_getElem? (i := 705) (by decide +kernel)⟩
theorem lw_p28 : lw_okq (⟨"StackDepths", "removeFromSheet", "(LStackDepths$Sheet;II)V"⟩, 10) := ⟨⟨by decide +kernel, by decide +kernel⟩, List.mem_of_getElem? (i := 16) (by decide +kernel), List.mem_of_getElem? (i := 712) (by decide +kernel), List.mem_of_getElem? (i := 713) (by decide +kernel)⟩
theorem lw_p29 : lw_okq (⟨"StackDepthsModel", "is", "(I)Z"⟩, 39) := ⟨⟨by decide +kernel, by decide +kernel⟩, List.mem_of_getElem? (i := 724) (by decide +kernel), List.mem_of_getElem? (i := 860) (by decide +kernel), List.mem_of_getElem? (i := 861) (by decide +kernel)⟩
theorem lw_p30 : lw_okq (⟨"StackDepthsModel", "called", "(III)I"⟩, 39) := ⟨⟨by decide +kernel, by decide +kernel⟩, List.mem_of_getElem? (i := 724) (by decide +kernel), List.mem_of_getElem? (i := 876) (by decide +kernel), List.mem_of_getElem? (i := 877) (by decide +kernel)⟩
theorem lw_p31 : lw_okq (⟨"StackDepthsModel", "find", "(III)I"⟩, 39) := ⟨⟨by decide +kernel, by decide +kernel⟩, List.mem_of_getElem? (i := 724) (by decide +kernel), List.mem_of_getElem? (i := 885) (by decide +kernel), List.mem_of_getElem? (i := 886) (by decide +kernel)⟩
def lw_privs_2 : List (MethodName × Nat) := [(⟨"StackDepths$Depths", "leastThatHas", "(II)I"⟩, 4), (⟨"StackDepths", "isTask", "(I)Z"⟩, 10), (⟨"StackDepths$Interrupts", "greatestAt", "(I[I)I"⟩, 4), (⟨"StackDepths", "totalAsMeasured", "(I)I"⟩, 10), (⟨"StackDepths", "roomAsMeasured", "(I)I"⟩, 10), (⟨"StackDepths", "shareRooms", "()I"⟩, 10), (⟨"StackDepths$Sharing", "place", "(LStackDepths$Tasks;III)V"⟩, 6), (⟨"StackDepths$Sharing", "keep", "(I)V"⟩, 6), (⟨"StackDepths", "totalWithout", "(II)I"⟩, 10), (⟨"StackDepths", "pushMarked", "(I)I"⟩, 10), (⟨"StackDepths", "stayedWithinDepth", "()Z"⟩, 10), (⟨"StackDepths", "addFromSheet", "(LStackDepths$Sheet;II)I"⟩, 10), (⟨"StackDepths", "removeFromSheet", "(LStackDepths$Sheet;II)V"⟩, 10), (⟨"StackDepthsModel", "is", "(I)Z"⟩, 39), (⟨"StackDepthsModel", "called", "(III)I"⟩, 39), (⟨"StackDepthsModel", "find", "(III)I"⟩, 39)]
theorem lw_r2 : ∀ q ∈ lw_privs_2, lw_okq q := List.forall_mem_cons.mpr ⟨lw_p16, List.forall_mem_cons.mpr ⟨lw_p17, List.forall_mem_cons.mpr ⟨lw_p18, List.forall_mem_cons.mpr ⟨lw_p19, List.forall_mem_cons.mpr ⟨lw_p20, List.forall_mem_cons.mpr ⟨lw_p21, List.forall_mem_cons.mpr ⟨lw_p22, List.forall_mem_cons.mpr ⟨lw_p23, List.forall_mem_cons.mpr ⟨lw_p24, List.forall_mem_cons.mpr ⟨lw_p25, List.forall_mem_cons.mpr ⟨lw_p26, List.forall_mem_cons.mpr ⟨lw_p27, List.forall_mem_cons.mpr ⟨lw_p28, List.forall_mem_cons.mpr ⟨lw_p29, List.forall_mem_cons.mpr ⟨lw_p30, List.forall_mem_cons.mpr ⟨lw_p31, fun _ h => absurd h List.not_mem_nil⟩⟩⟩⟩⟩⟩⟩⟩⟩⟩⟩⟩⟩⟩⟩⟩
theorem lw_p32 : lw_okq (⟨"StackDepthsModel", "layGoals", "()V"⟩, 39) := ⟨⟨by decide +kernel, by decide +kernel⟩, List.mem_of_getElem? (i := 724) (by decide +kernel), List.mem_of_getElem? (i := 905) (by decide +kernel), List.mem_of_getElem? (i := 906) (by decide +kernel)⟩
theorem lw_p33 : lw_okq (⟨"StackDepthsModel", "layNet", "()V"⟩, 39) := ⟨⟨by decide +kernel, by decide +kernel⟩, List.mem_of_getElem? (i := 724) (by decide +kernel), List.mem_of_getElem? (i := 914) (by decide +kernel), List.mem_of_getElem? (i := 915) (by decide +kernel)⟩
theorem lw_p34 : lw_okq (⟨"StackDepthsModel", "isRing", "(I)Z"⟩, 39) := ⟨⟨by decide +kernel, by decide +kernel⟩, List.mem_of_getElem? (i := 724) (by decide +kernel), List.mem_of_getElem? (i := 918) (by decide +kernel), List.mem_of_getElem? (i := 919) (by decide +kernel)⟩
theorem lw_p35 : lw_okq (⟨"StackDepthsModel", "layDepths", "()V"⟩, 39) := ⟨⟨by decide +kernel, by decide +kernel⟩, List.mem_of_getElem? (i := 724) (by decide +kernel), List.mem_of_getElem? (i := 932) (by decide +kernel), List.mem_of_getElem? (i := 933) (by decide +kernel)⟩
theorem lw_p36 : lw_okq (⟨"StackDepthsModel", "reckoned", "(I)I"⟩, 39) := ⟨⟨by decide +kernel, by decide +kernel⟩, List.mem_of_getElem? (i := 724) (by decide +kernel), List.mem_of_getElem? (i := 936) (by decide +kernel), List.mem_of_getElem? (i := 937) (by decide +kernel)⟩
theorem lw_p37 : lw_okq (⟨"StackDepthsModel", "greatest", "(I)I"⟩, 39) := ⟨⟨by decide +kernel, by decide +kernel⟩, List.mem_of_getElem? (i := 724) (by decide +kernel), List.mem_of_getElem? (i := 940) (by decide +kernel), List.mem_of_getElem? (i := 941) (by decide +kernel)⟩
theorem lw_p38 : lw_okq (⟨"StackDepthsModel", "own", "(I)I"⟩, 39) := ⟨⟨by decide +kernel, by decide +kernel⟩, List.mem_of_getElem? (i := 724) (by decide +kernel), List.mem_of_getElem? (i := 944) (by decide +kernel), List.mem_of_getElem? (i := 945) (by decide +kernel)⟩
theorem lw_p39 : lw_okq (⟨"StackDepthsModel", "reachesRing", "(I)Z"⟩, 39) := ⟨⟨by decide +kernel, by decide +kernel⟩, List.mem_of_getElem? (i := 724) (by decide +kernel), List.mem_of_getElem? (i := 952) (by decide +kernel), List.mem_of_getElem? (i := 953) (by decide +kernel)⟩
theorem lw_p40 : lw_okq (⟨"StackDepthsModel", "nextOf", "(I)I"⟩, 39) := ⟨⟨by decide +kernel, by decide +kernel⟩, List.mem_of_getElem? (i := 724) (by decide +kernel), List.mem_of_getElem? (i := 956) (by decide +kernel), List.mem_of_getElem? (i := 957) (by decide +kernel)⟩
theorem lw_p41 : lw_okq (⟨"StackDepthsModel", "isTask", "(I)Z"⟩, 39) := ⟨⟨by decide +kernel, by decide +kernel⟩, List.mem_of_getElem? (i := 724) (by decide +kernel), List.mem_of_getElem? (i := 977) (by decide +kernel), List.mem_of_getElem? (i := 978) (by decide +kernel)⟩
theorem lw_p42 : lw_okq (⟨"StackDepthsModel", "totalOf", "(I)I"⟩, 39) := ⟨⟨by decide +kernel, by decide +kernel⟩, List.mem_of_getElem? (i := 724) (by decide +kernel), List.mem_of_getElem? (i := 981) (by decide +kernel), List.mem_of_getElem? (i := 982) (by decide +kernel)⟩
theorem lw_p43 : lw_okq (⟨"StackDepthsModel", "top", "(I)I"⟩, 39) := ⟨⟨by decide +kernel, by decide +kernel⟩, List.mem_of_getElem? (i := 724) (by decide +kernel), List.mem_of_getElem? (i := 985) (by decide +kernel), List.mem_of_getElem? (i := 986) (by decide +kernel)⟩
theorem lw_p44 : lw_okq (⟨"StackDepthsModel", "share", "()Z"⟩, 39) := ⟨⟨by decide +kernel, by decide +kernel⟩, List.mem_of_getElem? (i := 724) (by decide +kernel), List.mem_of_getElem? (i := 997) (by decide +kernel), List.mem_of_getElem? (i := 998) (by decide +kernel)⟩
theorem lw_p45 : lw_okq (⟨"StackDepthsModel", "sumOf", "()I"⟩, 39) := ⟨⟨by decide +kernel, by decide +kernel⟩, List.mem_of_getElem? (i := 724) (by decide +kernel), List.mem_of_getElem? (i := 1001) (by decide +kernel), List.mem_of_getElem? (i := 1002) (by decide +kernel)⟩
theorem lw_p46 : lw_okq (⟨"StackDepthsModel", "nextWay", "()Z"⟩, 39) := ⟨⟨by decide +kernel, by decide +kernel⟩, List.mem_of_getElem? (i := 724) (by decide +kernel), List.mem_of_getElem? (i := 1005) (by decide +kernel), List.mem_of_getElem? (i := 1006) (by decide +kernel)⟩
theorem lw_p47 : lw_okq (⟨"StackDepthsModel", "highest", "(I)I"⟩, 39) := ⟨⟨by decide +kernel, by decide +kernel⟩, List.mem_of_getElem? (i := 724) (by decide +kernel), List.mem_of_getElem? (i := 1009) (by decide +kernel), List.mem_of_getElem? (i := 1010) (by decide +kernel)⟩
def lw_privs_3 : List (MethodName × Nat) := [(⟨"StackDepthsModel", "layGoals", "()V"⟩, 39), (⟨"StackDepthsModel", "layNet", "()V"⟩, 39), (⟨"StackDepthsModel", "isRing", "(I)Z"⟩, 39), (⟨"StackDepthsModel", "layDepths", "()V"⟩, 39), (⟨"StackDepthsModel", "reckoned", "(I)I"⟩, 39), (⟨"StackDepthsModel", "greatest", "(I)I"⟩, 39), (⟨"StackDepthsModel", "own", "(I)I"⟩, 39), (⟨"StackDepthsModel", "reachesRing", "(I)Z"⟩, 39), (⟨"StackDepthsModel", "nextOf", "(I)I"⟩, 39), (⟨"StackDepthsModel", "isTask", "(I)Z"⟩, 39), (⟨"StackDepthsModel", "totalOf", "(I)I"⟩, 39), (⟨"StackDepthsModel", "top", "(I)I"⟩, 39), (⟨"StackDepthsModel", "share", "()Z"⟩, 39), (⟨"StackDepthsModel", "sumOf", "()I"⟩, 39), (⟨"StackDepthsModel", "nextWay", "()Z"⟩, 39), (⟨"StackDepthsModel", "highest", "(I)I"⟩, 39)]
theorem lw_r3 : ∀ q ∈ lw_privs_3, lw_okq q := List.forall_mem_cons.mpr ⟨lw_p32, List.forall_mem_cons.mpr ⟨lw_p33, List.forall_mem_cons.mpr ⟨lw_p34, List.forall_mem_cons.mpr ⟨lw_p35, List.forall_mem_cons.mpr ⟨lw_p36, List.forall_mem_cons.mpr ⟨lw_p37, List.forall_mem_cons.mpr ⟨lw_p38, List.forall_mem_cons.mpr ⟨lw_p39, List.forall_mem_cons.mpr ⟨lw_p40, List.forall_mem_cons.mpr ⟨lw_p41, List.forall_mem_cons.mpr ⟨lw_p42, List.forall_mem_cons.mpr ⟨lw_p43, List.forall_mem_cons.mpr ⟨lw_p44, List.forall_mem_cons.mpr ⟨lw_p45, List.forall_mem_cons.mpr ⟨lw_p46, List.forall_mem_cons.mpr ⟨lw_p47, fun _ h => absurd h List.not_mem_nil⟩⟩⟩⟩⟩⟩⟩⟩⟩⟩⟩⟩⟩⟩⟩⟩
theorem lw_p48 : lw_okq (⟨"StackDepthsModel", "savesOf", "(II)I"⟩, 39) := ⟨⟨by decide +kernel, by decide +kernel⟩, List.mem_of_getElem? (i := 724) (by decide +kernel), List.mem_of_getElem? (i := 1021) (by decide +kernel), List.mem_of_getElem? (i := 1022) (by decide +kernel)⟩
theorem lw_p49 : lw_okq (⟨"StackDepthsModel", "put", "(I)V"⟩, 39) := ⟨⟨by decide +kernel, by decide +kernel⟩, List.mem_of_getElem? (i := 724) (by decide +kernel), List.mem_of_getElem? (i := 1033) (by decide +kernel), List.mem_of_getElem? (i := 1034) (by decide +kernel)⟩
theorem lw_p50 : lw_okq (⟨"StackDepthsModel", "pull", "()V"⟩, 39) := ⟨⟨by decide +kernel, by decide +kernel⟩, List.mem_of_getElem? (i := 724) (by decide +kernel), List.mem_of_getElem? (i := 1045) (by decide +kernel), List.mem_of_getElem? (i := 1046) (by decide +kernel)⟩
def lw_privs_4 : List (MethodName × Nat) := [(⟨"StackDepthsModel", "savesOf", "(II)I"⟩, 39), (⟨"StackDepthsModel", "put", "(I)V"⟩, 39), (⟨"StackDepthsModel", "pull", "()V"⟩, 39)]
theorem lw_r4 : ∀ q ∈ lw_privs_4, lw_okq q := List.forall_mem_cons.mpr ⟨lw_p48, List.forall_mem_cons.mpr ⟨lw_p49, List.forall_mem_cons.mpr ⟨lw_p50, fun _ h => absurd h List.not_mem_nil⟩⟩⟩
def lw_privs : List (MethodName × Nat) := lw_privs_1 ++ (lw_privs_2 ++ (lw_privs_3 ++ (lw_privs_4)))
def lw_tbl : List Cond := k2_sels lw_privs ++ tables_1
theorem lw_privs_ok : ∀ q ∈ lw_privs, lw_okq q := by
  show ∀ q ∈ lw_privs_1 ++ (lw_privs_2 ++ (lw_privs_3 ++ (lw_privs_4))), lw_okq q
  exact List.forall_mem_append.mpr ⟨lw_r1, List.forall_mem_append.mpr ⟨lw_r2, List.forall_mem_append.mpr ⟨lw_r3, lw_r4⟩⟩⟩
end
section
/-! ===== BEGIN words of one list among another's, by their places ===== -/
theorem goodIn_r {big : List Cond} (ws : List Cond) (ps : List Nat) (hp : ws = ps.filterMap (fun i => big[i]?)) (h : ws.all goodWord = true) : GoodIn big ws := by
  intro w hw
  have h1 := List.all_eq_true.mp h w hw
  rw [hp] at hw
  obtain ⟨i, -, hi⟩ := List.mem_filterMap.mp hw
  have hm : w ∈ big := by first | exact List.mem_of_getElem? hi | exact List.getElem?_mem hi
  exact ⟨hm, good_of_word h1⟩
theorem goodIn_app {big a b : List Cond} (ha : GoodIn big a) (hb : GoodIn big b) : GoodIn big (a ++ b) := fun w h => (List.mem_append.mp h).elim (ha w) (hb w)
theorem goodIn_ca {big a b : List Cond} {c : Cond} (ha : GoodIn big (c :: a)) (hb : GoodIn big b) : GoodIn big (c :: (a ++ b)) := fun w h => (List.mem_cons.mp h).elim (fun e => ha w (List.mem_cons.mpr (Or.inl e))) (fun h => (List.mem_append.mp h).elim (fun h => ha w (List.mem_cons.mpr (Or.inr h))) (hb w))
theorem goodIn_sub {big ws : List Cond} (hm : ∀ w ∈ ws, w ∈ big) (h : ws.all goodWord = true) : GoodIn big ws := fun w hw => ⟨hm w hw, good_of_word (List.all_eq_true.mp h w hw)⟩

def RX0 : String := "StackDepths$Calls"
def TX0 : u_T := fun k => match k with
  | 0 => ("StackDepths$Calls", "called", "[[I", true)
  | _ => ("StackDepths$Calls", "size", "I", false)
def tyX0 : Nat → FieldType := fun k => match k with
  | 0 => .array (.array .int)
  | _ => .int
theorem nmX0 : ∀ a, a < 2 → ∀ b, b < 2 → a ≠ b → (TX0 a).2.1 ≠ (TX0 b).2.1 := by decide +kernel
theorem tyX0_ok : ∀ k, k < 2 → parseFieldDescriptor (TX0 k).2.2.1 = some (tyX0 k) := by decide +kernel
abbrev cX0_init : ByteArray := prog_2_method_1_code
def yX0_init : MethodName := ⟨RX0, "<init>", "()V"⟩
abbrev cX0_has : ByteArray := prog_2_method_2_code
def yX0_has : MethodName := ⟨RX0, "has", "(III)Z"⟩
abbrev cX0_add : ByteArray := prog_2_method_3_code
def yX0_add : MethodName := ⟨RX0, "add", "(III)V"⟩
abbrev cX0_remove : ByteArray := prog_2_method_4_code
def yX0_remove : MethodName := ⟨RX0, "remove", "(III)V"⟩
def RX1 : String := "StackDepths$Depths"
def TX1 : u_T := fun k => match k with
  | 0 => ("StackDepths$Depths", "routines", "LStackDepths$Routines;", true)
  | 1 => ("StackDepths$Depths", "graph", "LStackDepths$Graph;", true)
  | 2 => ("StackDepths$Depths", "unframed", "I", false)
  | _ => ("StackDepths$Depths", "found", "[I", true)
def tyX1 : Nat → FieldType := fun k => match k with
  | 0 => .object "StackDepths$Routines"
  | 1 => .object "StackDepths$Graph"
  | 2 => .int
  | _ => .array .int
theorem nmX1 : ∀ a, a < 4 → ∀ b, b < 4 → a ≠ b → (TX1 a).2.1 ≠ (TX1 b).2.1 := by decide +kernel
theorem tyX1_ok : ∀ k, k < 4 → parseFieldDescriptor (TX1 k).2.2.1 = some (tyX1 k) := by decide +kernel
abbrev cX1_init : ByteArray := prog_3_method_1_code
def yX1_init : MethodName := ⟨RX1, "<init>", "(LStackDepths$Routines;LStackDepths$Graph;)V"⟩
abbrev cX1_measure : ByteArray := prog_3_method_2_code
def yX1_measure : MethodName := ⟨RX1, "measure", "(I)V"⟩
abbrev cX1_nextOnWay : ByteArray := prog_3_method_3_code
def yX1_nextOnWay : MethodName := ⟨RX1, "nextOnWay", "(I)I"⟩
abbrev cX1_spread : ByteArray := prog_3_method_4_code
def yX1_spread : MethodName := ⟨RX1, "spread", "(II)V"⟩
abbrev cX1_depthOfRing : ByteArray := prog_3_method_5_code
def yX1_depthOfRing : MethodName := ⟨RX1, "depthOfRing", "(I)I"⟩
abbrev cX1_depthOfTails : ByteArray := prog_3_method_6_code
def yX1_depthOfTails : MethodName := ⟨RX1, "depthOfTails", "(I)I"⟩
abbrev cX1_depthOfItself : ByteArray := prog_3_method_7_code
def yX1_depthOfItself : MethodName := ⟨RX1, "depthOfItself", "(I)I"⟩
abbrev cX1_frameOf : ByteArray := prog_3_method_8_code
def yX1_frameOf : MethodName := ⟨RX1, "frameOf", "(I)I"⟩
abbrev cX1_greatestOf : ByteArray := prog_3_method_9_code
def yX1_greatestOf : MethodName := ⟨RX1, "greatestOf", "(I)I"⟩
abbrev cX1_leastThatHas : ByteArray := prog_3_method_10_code
def yX1_leastThatHas : MethodName := ⟨RX1, "leastThatHas", "(II)I"⟩
abbrev cX1_leastThatTells : ByteArray := prog_3_method_11_code
def yX1_leastThatTells : MethodName := ⟨RX1, "leastThatTells", "(II)I"⟩
def RX2 : String := "StackDepths$Graph"
def TX2 : u_T := fun k => match k with
  | 0 => ("StackDepths$Graph", "routines", "LStackDepths$Routines;", true)
  | 1 => ("StackDepths$Graph", "pointers", "LStackDepths$Pointers;", true)
  | 2 => ("StackDepths$Graph", "calls", "LStackDepths$Calls;", true)
  | 3 => ("StackDepths$Graph", "outdated", "Z", false)
  | 4 => ("StackDepths$Graph", "plain", "[I", true)
  | 5 => ("StackDepths$Graph", "tails", "[I", true)
  | 6 => ("StackDepths$Graph", "reached", "[I", true)
  | 7 => ("StackDepths$Graph", "together", "[I", true)
  | 8 => ("StackDepths$Graph", "ringed", "I", false)
  | 9 => ("StackDepths$Graph", "leaders", "[I", true)
  | _ => ("StackDepths$Graph", "leading", "I", false)
def tyX2 : Nat → FieldType := fun k => match k with
  | 0 => .object "StackDepths$Routines"
  | 1 => .object "StackDepths$Pointers"
  | 2 => .object "StackDepths$Calls"
  | 3 => .boolean
  | 4 => .array .int
  | 5 => .array .int
  | 6 => .array .int
  | 7 => .array .int
  | 8 => .int
  | 9 => .array .int
  | _ => .int
theorem nmX2 : ∀ a, a < 11 → ∀ b, b < 11 → a ≠ b → (TX2 a).2.1 ≠ (TX2 b).2.1 := by decide +kernel
theorem tyX2_ok : ∀ k, k < 11 → parseFieldDescriptor (TX2 k).2.2.1 = some (tyX2 k) := by decide +kernel
abbrev cX2_init : ByteArray := prog_4_method_1_code
def yX2_init : MethodName := ⟨RX2, "<init>", "(LStackDepths$Routines;LStackDepths$Pointers;LStackDepths$Calls;)V"⟩
abbrev cX2_outdate : ByteArray := prog_4_method_2_code
def yX2_outdate : MethodName := ⟨RX2, "outdate", "()V"⟩
abbrev cX2_refresh : ByteArray := prog_4_method_3_code
def yX2_refresh : MethodName := ⟨RX2, "refresh", "()V"⟩
abbrev cX2_selfAndReached : ByteArray := prog_4_method_4_code
def yX2_selfAndReached : MethodName := ⟨RX2, "selfAndReached", "(I)I"⟩
abbrev cX2_howManyReach : ByteArray := prog_4_method_5_code
def yX2_howManyReach : MethodName := ⟨RX2, "howManyReach", "(I)I"⟩
abbrev cX2_howManyRings : ByteArray := prog_4_method_6_code
def yX2_howManyRings : MethodName := ⟨RX2, "howManyRings", "()I"⟩
abbrev cX2_drawCalls : ByteArray := prog_4_method_7_code
def yX2_drawCalls : MethodName := ⟨RX2, "drawCalls", "()V"⟩
abbrev cX2_closeReach : ByteArray := prog_4_method_8_code
def yX2_closeReach : MethodName := ⟨RX2, "closeReach", "()V"⟩
abbrev cX2_gatherTogether : ByteArray := prog_4_method_9_code
def yX2_gatherTogether : MethodName := ⟨RX2, "gatherTogether", "()V"⟩
abbrev cX2_markRings : ByteArray := prog_4_method_10_code
def yX2_markRings : MethodName := ⟨RX2, "markRings", "()V"⟩
abbrev cX2_orderLeaders : ByteArray := prog_4_method_11_code
def yX2_orderLeaders : MethodName := ⟨RX2, "orderLeaders", "()V"⟩
def RX3 : String := "StackDepths$Interrupts"
def TX3 : u_T := fun k => match k with
  | 0 => ("StackDepths$Interrupts", "ranks", "[I", true)
  | 1 => ("StackDepths$Interrupts", "routines", "[I", true)
  | 2 => ("StackDepths$Interrupts", "saved", "[I", true)
  | _ => ("StackDepths$Interrupts", "size", "I", false)
def tyX3 : Nat → FieldType := fun k => match k with
  | 0 => .array .int
  | 1 => .array .int
  | 2 => .array .int
  | _ => .int
theorem nmX3 : ∀ a, a < 4 → ∀ b, b < 4 → a ≠ b → (TX3 a).2.1 ≠ (TX3 b).2.1 := by decide +kernel
theorem tyX3_ok : ∀ k, k < 4 → parseFieldDescriptor (TX3 k).2.2.1 = some (tyX3 k) := by decide +kernel
abbrev cX3_init : ByteArray := prog_5_method_1_code
def yX3_init : MethodName := ⟨RX3, "<init>", "()V"⟩
abbrev cX3_add : ByteArray := prog_5_method_2_code
def yX3_add : MethodName := ⟨RX3, "add", "(III)I"⟩
abbrev cX3_topAbove : ByteArray := prog_5_method_3_code
def yX3_topAbove : MethodName := ⟨RX3, "topAbove", "(I[I)I"⟩
abbrev cX3_greatestAt : ByteArray := prog_5_method_4_code
def yX3_greatestAt : MethodName := ⟨RX3, "greatestAt", "(I[I)I"⟩
def RX4 : String := "StackDepths$Pointers"
def TX4 : u_T := fun k => match k with
  | 0 => ("StackDepths$Pointers", "taken", "[I", true)
  | 1 => ("StackDepths$Pointers", "sources", "[I", true)
  | _ => ("StackDepths$Pointers", "goals", "[I", true)
def tyX4 : Nat → FieldType := fun k => match k with
  | 0 => .array .int
  | 1 => .array .int
  | _ => .array .int
theorem nmX4 : ∀ a, a < 3 → ∀ b, b < 3 → a ≠ b → (TX4 a).2.1 ≠ (TX4 b).2.1 := by decide +kernel
theorem tyX4_ok : ∀ k, k < 3 → parseFieldDescriptor (TX4 k).2.2.1 = some (tyX4 k) := by decide +kernel
abbrev cX4_init : ByteArray := prog_6_method_1_code
def yX4_init : MethodName := ⟨RX4, "<init>", "()V"⟩
abbrev cX4_addTaken : ByteArray := prog_6_method_2_code
def yX4_addTaken : MethodName := ⟨RX4, "addTaken", "(II)V"⟩
abbrev cX4_addSource : ByteArray := prog_6_method_3_code
def yX4_addSource : MethodName := ⟨RX4, "addSource", "(II)V"⟩
abbrev cX4_spreadGoals : ByteArray := prog_6_method_4_code
def yX4_spreadGoals : MethodName := ⟨RX4, "spreadGoals", "()V"⟩
abbrev cX4_unionOf : ByteArray := prog_6_method_5_code
def yX4_unionOf : MethodName := ⟨RX4, "unionOf", "([II)I"⟩
def RX5 : String := "StackDepths$Routines"
def TX5 : u_T := fun k => match k with
  | 0 => ("StackDepths$Routines", "frames", "[I", true)
  | 1 => ("StackDepths$Routines", "turns", "[I", true)
  | _ => ("StackDepths$Routines", "size", "I", false)
def tyX5 : Nat → FieldType := fun k => match k with
  | 0 => .array .int
  | 1 => .array .int
  | _ => .int
theorem nmX5 : ∀ a, a < 3 → ∀ b, b < 3 → a ≠ b → (TX5 a).2.1 ≠ (TX5 b).2.1 := by decide +kernel
theorem tyX5_ok : ∀ k, k < 3 → parseFieldDescriptor (TX5 k).2.2.1 = some (tyX5 k) := by decide +kernel
abbrev cX5_init : ByteArray := prog_7_method_1_code
def yX5_init : MethodName := ⟨RX5, "<init>", "()V"⟩
abbrev cX5_add : ByteArray := prog_7_method_2_code
def yX5_add : MethodName := ⟨RX5, "add", "(I)I"⟩
abbrev cX5_withoutTurns : ByteArray := prog_7_method_3_code
def yX5_withoutTurns : MethodName := ⟨RX5, "withoutTurns", "()I"⟩
def RX6 : String := "StackDepths$Sharing"
def TX6 : u_T := fun k => match k with
  | 0 => ("StackDepths$Sharing", "rooms", "[I", true)
  | 1 => ("StackDepths$Sharing", "kept", "[I", true)
  | 2 => ("StackDepths$Sharing", "tried", "[I", true)
  | 3 => ("StackDepths$Sharing", "members", "[I", true)
  | 4 => ("StackDepths$Sharing", "widths", "[I", true)
  | _ => ("StackDepths$Sharing", "least", "I", false)
def tyX6 : Nat → FieldType := fun k => match k with
  | 0 => .array .int
  | 1 => .array .int
  | 2 => .array .int
  | 3 => .array .int
  | 4 => .array .int
  | _ => .int
theorem nmX6 : ∀ a, a < 6 → ∀ b, b < 6 → a ≠ b → (TX6 a).2.1 ≠ (TX6 b).2.1 := by decide +kernel
theorem tyX6_ok : ∀ k, k < 6 → parseFieldDescriptor (TX6 k).2.2.1 = some (tyX6 k) := by decide +kernel
abbrev cX6_init : ByteArray := prog_8_method_1_code
def yX6_init : MethodName := ⟨RX6, "<init>", "()V"⟩
abbrev cX6_divide : ByteArray := prog_8_method_2_code
def yX6_divide : MethodName := ⟨RX6, "divide", "(LStackDepths$Tasks;)I"⟩
abbrev cX6_place : ByteArray := prog_8_method_3_code
def yX6_place : MethodName := ⟨RX6, "place", "(LStackDepths$Tasks;III)V"⟩
abbrev cX6_keep : ByteArray := prog_8_method_4_code
def yX6_keep : MethodName := ⟨RX6, "keep", "(I)V"⟩
def RX7 : String := "StackDepths$Sheet"
def TX7 : u_T := fun k => match k with
  | 0 => ("StackDepths$Sheet", "cells", "[I", true)
  | 1 => ("StackDepths$Sheet", "lane", "I", false)
  | _ => ("StackDepths$Sheet", "length", "I", false)
def tyX7 : Nat → FieldType := fun k => match k with
  | 0 => .array .int
  | 1 => .int
  | _ => .int
theorem nmX7 : ∀ a, a < 3 → ∀ b, b < 3 → a ≠ b → (TX7 a).2.1 ≠ (TX7 b).2.1 := by decide +kernel
theorem tyX7_ok : ∀ k, k < 3 → parseFieldDescriptor (TX7 k).2.2.1 = some (tyX7 k) := by decide +kernel
abbrev cX7_init : ByteArray := prog_9_method_1_code
def yX7_init : MethodName := ⟨RX7, "<init>", "()V"⟩
abbrev cX7_isNothing : ByteArray := prog_9_method_2_code
def yX7_isNothing : MethodName := ⟨RX7, "isNothing", "()Z"⟩
abbrev cX7_makeNew : ByteArray := prog_9_method_3_code
def yX7_makeNew : MethodName := ⟨RX7, "makeNew", "(II)V"⟩
abbrev cX7_put : ByteArray := prog_9_method_4_code
def yX7_put : MethodName := ⟨RX7, "put", "(II)V"⟩
abbrev cX7_holdsCall : ByteArray := prog_9_method_5_code
def yX7_holdsCall : MethodName := ⟨RX7, "holdsCall", "(II)Z"⟩
def RX8 : String := "StackDepths$Tasks"
def TX8 : u_T := fun k => match k with
  | 0 => ("StackDepths$Tasks", "routines", "[I", true)
  | 1 => ("StackDepths$Tasks", "ranks", "[I", true)
  | 2 => ("StackDepths$Tasks", "guards", "[I", true)
  | 3 => ("StackDepths$Tasks", "apart", "[I", true)
  | _ => ("StackDepths$Tasks", "size", "I", false)
def tyX8 : Nat → FieldType := fun k => match k with
  | 0 => .array .int
  | 1 => .array .int
  | 2 => .array .int
  | 3 => .array .int
  | _ => .int
theorem nmX8 : ∀ a, a < 5 → ∀ b, b < 5 → a ≠ b → (TX8 a).2.1 ≠ (TX8 b).2.1 := by decide +kernel
theorem tyX8_ok : ∀ k, k < 5 → parseFieldDescriptor (TX8 k).2.2.1 = some (tyX8 k) := by decide +kernel
abbrev cX8_init : ByteArray := prog_10_method_1_code
def yX8_init : MethodName := ⟨RX8, "<init>", "()V"⟩
abbrev cX8_add : ByteArray := prog_10_method_2_code
def yX8_add : MethodName := ⟨RX8, "add", "(III)I"⟩
abbrev cX8_setApart : ByteArray := prog_10_method_3_code
def yX8_setApart : MethodName := ⟨RX8, "setApart", "(IIZ)V"⟩
def RX9 : String := "StackDepths$Trail"
def TX9 : u_T := fun k => match k with
  | 0 => ("StackDepths$Trail", "standing", "[I", true)
  | 1 => ("StackDepths$Trail", "framed", "[I", true)
  | 2 => ("StackDepths$Trail", "height", "I", false)
  | 3 => ("StackDepths$Trail", "deep", "I", false)
  | 4 => ("StackDepths$Trail", "deepest", "I", false)
  | 5 => ("StackDepths$Trail", "strange", "I", false)
  | 6 => ("StackDepths$Trail", "tooOften", "I", false)
  | _ => ("StackDepths$Trail", "first", "I", false)
def tyX9 : Nat → FieldType := fun k => match k with
  | 0 => .array .int
  | 1 => .array .int
  | 2 => .int
  | 3 => .int
  | 4 => .int
  | 5 => .int
  | 6 => .int
  | _ => .int
theorem nmX9 : ∀ a, a < 8 → ∀ b, b < 8 → a ≠ b → (TX9 a).2.1 ≠ (TX9 b).2.1 := by decide +kernel
theorem tyX9_ok : ∀ k, k < 8 → parseFieldDescriptor (TX9 k).2.2.1 = some (tyX9 k) := by decide +kernel
abbrev cX9_init : ByteArray := prog_11_method_1_code
def yX9_init : MethodName := ⟨RX9, "<init>", "()V"⟩
abbrev cX9_begin : ByteArray := prog_11_method_2_code
def yX9_begin : MethodName := ⟨RX9, "begin", "(I)V"⟩
abbrev cX9_push : ByteArray := prog_11_method_3_code
def yX9_push : MethodName := ⟨RX9, "push", "(II)V"⟩
abbrev cX9_pop : ByteArray := prog_11_method_4_code
def yX9_pop : MethodName := ⟨RX9, "pop", "()V"⟩
abbrev cX9_onTop : ByteArray := prog_11_method_5_code
def yX9_onTop : MethodName := ⟨RX9, "onTop", "()I"⟩
abbrev cX9_markStep : ByteArray := prog_11_method_6_code
def yX9_markStep : MethodName := ⟨RX9, "markStep", "(Z)V"⟩
abbrev cX9_howOften : ByteArray := prog_11_method_7_code
def yX9_howOften : MethodName := ⟨RX9, "howOften", "(I)I"⟩
def RX10 : String := "StackDepths"
def TX10 : u_T := fun k => match k with
  | 0 => ("StackDepths", "routines", "LStackDepths$Routines;", true)
  | 1 => ("StackDepths", "pointers", "LStackDepths$Pointers;", true)
  | 2 => ("StackDepths", "calls", "LStackDepths$Calls;", true)
  | 3 => ("StackDepths", "graph", "LStackDepths$Graph;", true)
  | 4 => ("StackDepths", "depths", "LStackDepths$Depths;", true)
  | 5 => ("StackDepths", "interrupts", "LStackDepths$Interrupts;", true)
  | 6 => ("StackDepths", "tasks", "LStackDepths$Tasks;", true)
  | 7 => ("StackDepths", "sharing", "LStackDepths$Sharing;", true)
  | 8 => ("StackDepths", "trail", "LStackDepths$Trail;", true)
  | _ => ("StackDepths", "sheets", "[LStackDepths$Sheet;", true)
def tyX10 : Nat → FieldType := fun k => match k with
  | 0 => .object "StackDepths$Routines"
  | 1 => .object "StackDepths$Pointers"
  | 2 => .object "StackDepths$Calls"
  | 3 => .object "StackDepths$Graph"
  | 4 => .object "StackDepths$Depths"
  | 5 => .object "StackDepths$Interrupts"
  | 6 => .object "StackDepths$Tasks"
  | 7 => .object "StackDepths$Sharing"
  | 8 => .object "StackDepths$Trail"
  | _ => .array (.object "StackDepths$Sheet")
theorem nmX10 : ∀ a, a < 10 → ∀ b, b < 10 → a ≠ b → (TX10 a).2.1 ≠ (TX10 b).2.1 := by decide +kernel
theorem tyX10_ok : ∀ k, k < 10 → parseFieldDescriptor (TX10 k).2.2.1 = some (tyX10 k) := by decide +kernel
abbrev cX10_init : ByteArray := prog_1_method_1_code
def yX10_init : MethodName := ⟨RX10, "<init>", "()V"⟩
abbrev cX10_routine : ByteArray := prog_1_method_2_code
def yX10_routine : MethodName := ⟨RX10, "routine", "(I)I"⟩
abbrev cX10_frame : ByteArray := prog_1_method_3_code
def yX10_frame : MethodName := ⟨RX10, "frame", "(II)I"⟩
abbrev cX10_turns : ByteArray := prog_1_method_4_code
def yX10_turns : MethodName := ⟨RX10, "turns", "(II)I"⟩
abbrev cX10_call : ByteArray := prog_1_method_5_code
def yX10_call : MethodName := ⟨RX10, "call", "(IIZZ)I"⟩
abbrev cX10_cut : ByteArray := prog_1_method_6_code
def yX10_cut : MethodName := ⟨RX10, "cut", "(IIZZ)I"⟩
abbrev cX10_take : ByteArray := prog_1_method_7_code
def yX10_take : MethodName := ⟨RX10, "take", "(II)I"⟩
abbrev cX10_flow : ByteArray := prog_1_method_8_code
def yX10_flow : MethodName := ⟨RX10, "flow", "(II)I"⟩
abbrev cX10_goals : ByteArray := prog_1_method_9_code
def yX10_goals : MethodName := ⟨RX10, "goals", "(I)I"⟩
abbrev cX10_about : ByteArray := prog_1_method_10_code
def yX10_about : MethodName := ⟨RX10, "about", "(II)I"⟩
abbrev cX10_depth : ByteArray := prog_1_method_11_code
def yX10_depth : MethodName := ⟨RX10, "depth", "(I)I"⟩
abbrev cX10_way : ByteArray := prog_1_method_12_code
def yX10_way : MethodName := ⟨RX10, "way", "(II)I"⟩
abbrev cX10_endless : ByteArray := prog_1_method_13_code
def yX10_endless : MethodName := ⟨RX10, "endless", "(I)I"⟩
abbrev cX10_interrupt : ByteArray := prog_1_method_14_code
def yX10_interrupt : MethodName := ⟨RX10, "interrupt", "(III)I"⟩
abbrev cX10_task : ByteArray := prog_1_method_15_code
def yX10_task : MethodName := ⟨RX10, "task", "(III)I"⟩
abbrev cX10_total : ByteArray := prog_1_method_16_code
def yX10_total : MethodName := ⟨RX10, "total", "(II)I"⟩
abbrev cX10_apart : ByteArray := prog_1_method_17_code
def yX10_apart : MethodName := ⟨RX10, "apart", "(IIZ)I"⟩
abbrev cX10_shared : ByteArray := prog_1_method_18_code
def yX10_shared : MethodName := ⟨RX10, "shared", "()I"⟩
abbrev cX10_group : ByteArray := prog_1_method_19_code
def yX10_group : MethodName := ⟨RX10, "group", "(I)I"⟩
abbrev cX10_saves : ByteArray := prog_1_method_20_code
def yX10_saves : MethodName := ⟨RX10, "saves", "(II)I"⟩
abbrev cX10_best : ByteArray := prog_1_method_21_code
def yX10_best : MethodName := ⟨RX10, "best", "(I)I"⟩
abbrev cX10_run : ByteArray := prog_1_method_22_code
def yX10_run : MethodName := ⟨RX10, "run", "(I)I"⟩
abbrev cX10_enter : ByteArray := prog_1_method_23_code
def yX10_enter : MethodName := ⟨RX10, "enter", "(I)I"⟩
abbrev cX10_over : ByteArray := prog_1_method_24_code
def yX10_over : MethodName := ⟨RX10, "over", "(I)I"⟩
abbrev cX10_leave : ByteArray := prog_1_method_25_code
def yX10_leave : MethodName := ⟨RX10, "leave", "()I"⟩
abbrev cX10_ran : ByteArray := prog_1_method_26_code
def yX10_ran : MethodName := ⟨RX10, "ran", "(I)I"⟩
abbrev cX10_sheet : ByteArray := prog_1_method_27_code
def yX10_sheet : MethodName := ⟨RX10, "sheet", "(III)I"⟩
abbrev cX10_lay : ByteArray := prog_1_method_28_code
def yX10_lay : MethodName := ⟨RX10, "lay", "(III)I"⟩
abbrev cX10_scan : ByteArray := prog_1_method_29_code
def yX10_scan : MethodName := ⟨RX10, "scan", "(IIII)I"⟩
abbrev cX10_count : ByteArray := prog_1_method_30_code
def yX10_count : MethodName := ⟨RX10, "count", "(I)I"⟩
abbrev cX10_isRoutine : ByteArray := prog_1_method_31_code
def yX10_isRoutine : MethodName := ⟨RX10, "isRoutine", "(I)Z"⟩
abbrev cX10_isPointer : ByteArray := prog_1_method_32_code
def yX10_isPointer : MethodName := ⟨RX10, "isPointer", "(I)Z"⟩
abbrev cX10_isTask : ByteArray := prog_1_method_33_code
def yX10_isTask : MethodName := ⟨RX10, "isTask", "(I)Z"⟩
abbrev cX10_isSheet : ByteArray := prog_1_method_34_code
def yX10_isSheet : MethodName := ⟨RX10, "isSheet", "(I)Z"⟩
abbrev cX10_isLane : ByteArray := prog_1_method_35_code
def yX10_isLane : MethodName := ⟨RX10, "isLane", "(I)Z"⟩
abbrev cX10_within : ByteArray := prog_1_method_36_code
def yX10_within : MethodName := ⟨RX10, "within", "(III)Z"⟩
abbrev cX10_holds : ByteArray := prog_1_method_37_code
def yX10_holds : MethodName := ⟨RX10, "holds", "(II)Z"⟩
abbrev cX10_leastOf : ByteArray := prog_1_method_38_code
def yX10_leastOf : MethodName := ⟨RX10, "leastOf", "(I)I"⟩
abbrev cX10_plus : ByteArray := prog_1_method_39_code
def yX10_plus : MethodName := ⟨RX10, "plus", "(II)I"⟩
abbrev cX10_greater : ByteArray := prog_1_method_40_code
def yX10_greater : MethodName := ⟨RX10, "greater", "(II)I"⟩
abbrev cX10_kindOf : ByteArray := prog_1_method_41_code
def yX10_kindOf : MethodName := ⟨RX10, "kindOf", "(ZZ)I"⟩
abbrev cX10_canBeCall : ByteArray := prog_1_method_42_code
def yX10_canBeCall : MethodName := ⟨RX10, "canBeCall", "(III)Z"⟩
abbrev cX10_refusalOfCall : ByteArray := prog_1_method_43_code
def yX10_refusalOfCall : MethodName := ⟨RX10, "refusalOfCall", "(III)I"⟩
abbrev cX10_addFromSheet : ByteArray := prog_1_method_44_code
def yX10_addFromSheet : MethodName := ⟨RX10, "addFromSheet", "(LStackDepths$Sheet;II)I"⟩
abbrev cX10_removeFromSheet : ByteArray := prog_1_method_45_code
def yX10_removeFromSheet : MethodName := ⟨RX10, "removeFromSheet", "(LStackDepths$Sheet;II)V"⟩
abbrev cX10_totalAsMeasured : ByteArray := prog_1_method_46_code
def yX10_totalAsMeasured : MethodName := ⟨RX10, "totalAsMeasured", "(I)I"⟩
abbrev cX10_roomAsMeasured : ByteArray := prog_1_method_47_code
def yX10_roomAsMeasured : MethodName := ⟨RX10, "roomAsMeasured", "(I)I"⟩
abbrev cX10_totalWithout : ByteArray := prog_1_method_48_code
def yX10_totalWithout : MethodName := ⟨RX10, "totalWithout", "(II)I"⟩
abbrev cX10_shareRooms : ByteArray := prog_1_method_49_code
def yX10_shareRooms : MethodName := ⟨RX10, "shareRooms", "()I"⟩
abbrev cX10_pushMarked : ByteArray := prog_1_method_50_code
def yX10_pushMarked : MethodName := ⟨RX10, "pushMarked", "(I)I"⟩
abbrev cX10_stayedWithinDepth : ByteArray := prog_1_method_51_code
def yX10_stayedWithinDepth : MethodName := ⟨RX10, "stayedWithinDepth", "()Z"⟩
def RX11 : String := "StackDepthsModel"
def TX11 : u_T := fun k => match k with
  | 0 => ("StackDepthsModel", "routines", "I", false)
  | 1 => ("StackDepthsModel", "frames", "[I", true)
  | 2 => ("StackDepthsModel", "turnsOf", "[I", true)
  | 3 => ("StackDepthsModel", "calls", "I", false)
  | 4 => ("StackDepthsModel", "callFrom", "[I", true)
  | 5 => ("StackDepthsModel", "callTo", "[I", true)
  | 6 => ("StackDepthsModel", "callSort", "[I", true)
  | 7 => ("StackDepthsModel", "taken", "[I", true)
  | 8 => ("StackDepthsModel", "flows", "[I", true)
  | 9 => ("StackDepthsModel", "goalsOf", "[I", true)
  | 10 => ("StackDepthsModel", "plain", "[I", true)
  | 11 => ("StackDepthsModel", "tails", "[I", true)
  | 12 => ("StackDepthsModel", "reached", "[I", true)
  | 13 => ("StackDepthsModel", "together", "[I", true)
  | 14 => ("StackDepthsModel", "depths", "[I", true)
  | 15 => ("StackDepthsModel", "interrupts", "I", false)
  | 16 => ("StackDepthsModel", "ranks", "[I", true)
  | 17 => ("StackDepthsModel", "handlers", "[I", true)
  | 18 => ("StackDepthsModel", "saved", "[I", true)
  | 19 => ("StackDepthsModel", "tasks", "I", false)
  | 20 => ("StackDepthsModel", "mains", "[I", true)
  | 21 => ("StackDepthsModel", "taskRank", "[I", true)
  | 22 => ("StackDepthsModel", "guards", "[I", true)
  | 23 => ("StackDepthsModel", "apartOf", "[I", true)
  | 24 => ("StackDepthsModel", "groups", "[I", true)
  | 25 => ("StackDepthsModel", "leastGroups", "[I", true)
  | 26 => ("StackDepthsModel", "leastSum", "I", false)
  | 27 => ("StackDepthsModel", "wasRun", "Z", false)
  | 28 => ("StackDepthsModel", "height", "I", false)
  | 29 => ("StackDepthsModel", "stack", "[I", true)
  | 30 => ("StackDepthsModel", "size", "[I", true)
  | 31 => ("StackDepthsModel", "firstOne", "I", false)
  | 32 => ("StackDepthsModel", "deep", "I", false)
  | 33 => ("StackDepthsModel", "deepest", "I", false)
  | 34 => ("StackDepthsModel", "strange", "I", false)
  | 35 => ("StackDepthsModel", "often", "I", false)
  | 36 => ("StackDepthsModel", "lanes", "[I", true)
  | 37 => ("StackDepthsModel", "lengths", "[I", true)
  | _ => ("StackDepthsModel", "cells", "[I", true)
def tyX11 : Nat → FieldType := fun k => match k with
  | 0 => .int
  | 1 => .array .int
  | 2 => .array .int
  | 3 => .int
  | 4 => .array .int
  | 5 => .array .int
  | 6 => .array .int
  | 7 => .array .int
  | 8 => .array .int
  | 9 => .array .int
  | 10 => .array .int
  | 11 => .array .int
  | 12 => .array .int
  | 13 => .array .int
  | 14 => .array .int
  | 15 => .int
  | 16 => .array .int
  | 17 => .array .int
  | 18 => .array .int
  | 19 => .int
  | 20 => .array .int
  | 21 => .array .int
  | 22 => .array .int
  | 23 => .array .int
  | 24 => .array .int
  | 25 => .array .int
  | 26 => .int
  | 27 => .boolean
  | 28 => .int
  | 29 => .array .int
  | 30 => .array .int
  | 31 => .int
  | 32 => .int
  | 33 => .int
  | 34 => .int
  | 35 => .int
  | 36 => .array .int
  | 37 => .array .int
  | _ => .array .int
theorem nmX11 : ∀ a, a < 39 → ∀ b, b < 39 → a ≠ b → (TX11 a).2.1 ≠ (TX11 b).2.1 := by decide +kernel
theorem tyX11_ok : ∀ k, k < 39 → parseFieldDescriptor (TX11 k).2.2.1 = some (tyX11 k) := by decide +kernel
abbrev cX11_init : ByteArray := prog_13_method_1_code
def yX11_init : MethodName := ⟨RX11, "<init>", "()V"⟩
abbrev cX11_in : ByteArray := prog_13_method_3_code
def yX11_in : MethodName := ⟨RX11, "in", "(JJJ)Z"⟩
abbrev cX11_is : ByteArray := prog_13_method_4_code
def yX11_is : MethodName := ⟨RX11, "is", "(I)Z"⟩
abbrev cX11_isPointer : ByteArray := prog_13_method_5_code
def yX11_isPointer : MethodName := ⟨RX11, "isPointer", "(I)Z"⟩
abbrev cX11_routine : ByteArray := prog_13_method_6_code
def yX11_routine : MethodName := ⟨RX11, "routine", "(I)I"⟩
abbrev cX11_frame : ByteArray := prog_13_method_7_code
def yX11_frame : MethodName := ⟨RX11, "frame", "(II)I"⟩
abbrev cX11_turns : ByteArray := prog_13_method_8_code
def yX11_turns : MethodName := ⟨RX11, "turns", "(II)I"⟩
abbrev cX11_find : ByteArray := prog_13_method_9_code
def yX11_find : MethodName := ⟨RX11, "find", "(III)I"⟩
abbrev cX11_called : ByteArray := prog_13_method_10_code
def yX11_called : MethodName := ⟨RX11, "called", "(III)I"⟩
abbrev cX11_sortOf : ByteArray := prog_13_method_11_code
def yX11_sortOf : MethodName := ⟨RX11, "sortOf", "(ZZ)I"⟩
abbrev cX11_call : ByteArray := prog_13_method_12_code
def yX11_call : MethodName := ⟨RX11, "call", "(IIZZ)I"⟩
abbrev cX11_cut : ByteArray := prog_13_method_13_code
def yX11_cut : MethodName := ⟨RX11, "cut", "(IIZZ)I"⟩
abbrev cX11_take : ByteArray := prog_13_method_14_code
def yX11_take : MethodName := ⟨RX11, "take", "(II)I"⟩
abbrev cX11_flow : ByteArray := prog_13_method_15_code
def yX11_flow : MethodName := ⟨RX11, "flow", "(II)I"⟩
abbrev cX11_layGoals : ByteArray := prog_13_method_16_code
def yX11_layGoals : MethodName := ⟨RX11, "layGoals", "()V"⟩
abbrev cX11_goals : ByteArray := prog_13_method_17_code
def yX11_goals : MethodName := ⟨RX11, "goals", "(I)I"⟩
abbrev cX11_layNet : ByteArray := prog_13_method_18_code
def yX11_layNet : MethodName := ⟨RX11, "layNet", "()V"⟩
abbrev cX11_isRing : ByteArray := prog_13_method_19_code
def yX11_isRing : MethodName := ⟨RX11, "isRing", "(I)Z"⟩
abbrev cX11_leastOf : ByteArray := prog_13_method_20_code
def yX11_leastOf : MethodName := ⟨RX11, "leastOf", "(I)I"⟩
abbrev cX11_sizeOf : ByteArray := prog_13_method_21_code
def yX11_sizeOf : MethodName := ⟨RX11, "sizeOf", "(I)I"⟩
abbrev cX11_about : ByteArray := prog_13_method_22_code
def yX11_about : MethodName := ⟨RX11, "about", "(II)I"⟩
abbrev cX11_greatest : ByteArray := prog_13_method_23_code
def yX11_greatest : MethodName := ⟨RX11, "greatest", "(I)I"⟩
abbrev cX11_own : ByteArray := prog_13_method_24_code
def yX11_own : MethodName := ⟨RX11, "own", "(I)I"⟩
abbrev cX11_reckoned : ByteArray := prog_13_method_25_code
def yX11_reckoned : MethodName := ⟨RX11, "reckoned", "(I)I"⟩
abbrev cX11_layDepths : ByteArray := prog_13_method_26_code
def yX11_layDepths : MethodName := ⟨RX11, "layDepths", "()V"⟩
abbrev cX11_depth : ByteArray := prog_13_method_27_code
def yX11_depth : MethodName := ⟨RX11, "depth", "(I)I"⟩
abbrev cX11_reachesRing : ByteArray := prog_13_method_28_code
def yX11_reachesRing : MethodName := ⟨RX11, "reachesRing", "(I)Z"⟩
abbrev cX11_nextOf : ByteArray := prog_13_method_29_code
def yX11_nextOf : MethodName := ⟨RX11, "nextOf", "(I)I"⟩
abbrev cX11_way : ByteArray := prog_13_method_30_code
def yX11_way : MethodName := ⟨RX11, "way", "(II)I"⟩
abbrev cX11_endless : ByteArray := prog_13_method_31_code
def yX11_endless : MethodName := ⟨RX11, "endless", "(I)I"⟩
abbrev cX11_interrupt : ByteArray := prog_13_method_32_code
def yX11_interrupt : MethodName := ⟨RX11, "interrupt", "(III)I"⟩
abbrev cX11_task : ByteArray := prog_13_method_33_code
def yX11_task : MethodName := ⟨RX11, "task", "(III)I"⟩
abbrev cX11_isTask : ByteArray := prog_13_method_34_code
def yX11_isTask : MethodName := ⟨RX11, "isTask", "(I)Z"⟩
abbrev cX11_top : ByteArray := prog_13_method_35_code
def yX11_top : MethodName := ⟨RX11, "top", "(I)I"⟩
abbrev cX11_totalOf : ByteArray := prog_13_method_36_code
def yX11_totalOf : MethodName := ⟨RX11, "totalOf", "(I)I"⟩
abbrev cX11_total : ByteArray := prog_13_method_37_code
def yX11_total : MethodName := ⟨RX11, "total", "(II)I"⟩
abbrev cX11_apart : ByteArray := prog_13_method_38_code
def yX11_apart : MethodName := ⟨RX11, "apart", "(IIZ)I"⟩
abbrev cX11_sumOf : ByteArray := prog_13_method_39_code
def yX11_sumOf : MethodName := ⟨RX11, "sumOf", "()I"⟩
abbrev cX11_highest : ByteArray := prog_13_method_40_code
def yX11_highest : MethodName := ⟨RX11, "highest", "(I)I"⟩
abbrev cX11_nextWay : ByteArray := prog_13_method_41_code
def yX11_nextWay : MethodName := ⟨RX11, "nextWay", "()Z"⟩
abbrev cX11_share : ByteArray := prog_13_method_42_code
def yX11_share : MethodName := ⟨RX11, "share", "()Z"⟩
abbrev cX11_shared : ByteArray := prog_13_method_43_code
def yX11_shared : MethodName := ⟨RX11, "shared", "()I"⟩
abbrev cX11_group : ByteArray := prog_13_method_44_code
def yX11_group : MethodName := ⟨RX11, "group", "(I)I"⟩
abbrev cX11_savesOf : ByteArray := prog_13_method_45_code
def yX11_savesOf : MethodName := ⟨RX11, "savesOf", "(II)I"⟩
abbrev cX11_saves : ByteArray := prog_13_method_46_code
def yX11_saves : MethodName := ⟨RX11, "saves", "(II)I"⟩
abbrev cX11_best : ByteArray := prog_13_method_47_code
def yX11_best : MethodName := ⟨RX11, "best", "(I)I"⟩
abbrev cX11_put : ByteArray := prog_13_method_48_code
def yX11_put : MethodName := ⟨RX11, "put", "(I)V"⟩
abbrev cX11_pull : ByteArray := prog_13_method_49_code
def yX11_pull : MethodName := ⟨RX11, "pull", "()V"⟩
abbrev cX11_run : ByteArray := prog_13_method_50_code
def yX11_run : MethodName := ⟨RX11, "run", "(I)I"⟩
abbrev cX11_enter : ByteArray := prog_13_method_51_code
def yX11_enter : MethodName := ⟨RX11, "enter", "(I)I"⟩
abbrev cX11_over : ByteArray := prog_13_method_52_code
def yX11_over : MethodName := ⟨RX11, "over", "(I)I"⟩
abbrev cX11_leave : ByteArray := prog_13_method_53_code
def yX11_leave : MethodName := ⟨RX11, "leave", "()I"⟩
abbrev cX11_ran : ByteArray := prog_13_method_54_code
def yX11_ran : MethodName := ⟨RX11, "ran", "(I)I"⟩
abbrev cX11_sheet : ByteArray := prog_13_method_55_code
def yX11_sheet : MethodName := ⟨RX11, "sheet", "(III)I"⟩
abbrev cX11_lay : ByteArray := prog_13_method_56_code
def yX11_lay : MethodName := ⟨RX11, "lay", "(III)I"⟩
abbrev cX11_scan : ByteArray := prog_13_method_57_code
def yX11_scan : MethodName := ⟨RX11, "scan", "(IIII)I"⟩
abbrev cX11_count : ByteArray := prog_13_method_58_code
def yX11_count : MethodName := ⟨RX11, "count", "(I)I"⟩
def RJ6 : String := "java/lang/Integer"
def TJ6 : u_T := fun k => match k with
  | _ => ("", "", "", false)
def tyJ6 : Nat → FieldType := fun k => match k with
  | _ => .int
abbrev cJ6_bitCount_0f7a4 : ByteArray := prog_14_method_49_code
def yJ6_bitCount_0f7a4 : MethodName := ⟨RJ6, "bitCount", "(I)I"⟩
def RJ9 : String := "java/lang/Math"
def TJ9 : u_T := fun k => match k with
  | _ => ("", "", "", false)
def tyJ9 : Nat → FieldType := fun k => match k with
  | _ => .int
abbrev cJ9_max_7cf53 : ByteArray := prog_15_method_65_code
def yJ9_max_7cf53 : MethodName := ⟨RJ9, "max", "(II)I"⟩
abbrev cJ9_min_7cf53 : ByteArray := prog_15_method_69_code
def yJ9_min_7cf53 : MethodName := ⟨RJ9, "min", "(II)I"⟩
def RL : String := "StackDepthsLaw"
abbrev cL_law : ByteArray := code
def yL_law : MethodName := ⟨RL, "law", "([I)Z"⟩
abbrev vwCl : List vw_C := [(RX0, TX0, 2), (RX1, TX1, 4), (RX2, TX2, 11), (RX3, TX3, 4), (RX4, TX4, 3), (RX5, TX5, 3), (RX6, TX6, 6), (RX7, TX7, 3), (RX8, TX8, 5), (RX9, TX9, 8), (RX10, TX10, 10), (RX11, TX11, 39)]
end
section
/-! the pure layer: a memory of ints over a fixed shape of cells; judgements PW (a point of a method) and CT (a call), shallow over the kit's W and Met -/
abbrev pw_Lay : Type := Launch × (Nat → ClassId) × (Nat → Nat → Nat) × (Nat → Nat) × ClassId × ClassId × ClassId
abbrev pw_l (L : pw_Lay) : Launch := L.1
abbrev pw_G (L : pw_Lay) : va_G := (L.2.1, L.2.2.1)
abbrev pw_ad (L : pw_Lay) : Nat → Nat := L.2.2.2.1
abbrev pw_cI (L : pw_Lay) : ClassId := L.2.2.2.2.1
abbrev pw_cB (L : pw_Lay) : ClassId := L.2.2.2.2.2.1
abbrev pw_cS (L : pw_Lay) : ClassId := L.2.2.2.2.2.2
abbrev pw_Mem : Type := Nat → Nat → Int32
abbrev pw_Sh : Type := (Nat × List (Option Nat)) ⊕ (Nat ⊕ (Nat × List Nat))
/-- a method: its name, its class, its bytes, its locals, what it returns -/
abbrev pw_Md : Type := MethodName × String × ByteArray × Nat × Option FieldType
def pw_shp : List pw_Sh := [.inl (10, [some 1, some 4, some 8, some 14, some 20, some 22, some 26, some 31, some 37, some 40]), .inl (5, [some 2, some 3, none]), .inr (.inl 20), .inr (.inl 20), .inl (4, [some 5, some 6, some 7]), .inr (.inl 8), .inr (.inl 8), .inr (.inl 8), .inl (0, [some 9, none]), .inr (.inr (0, [10, 11, 12, 13])), .inr (.inl 20), .inr (.inl 20), .inr (.inl 20), .inr (.inl 20), .inl (2, [some 1, some 4, some 8, none, some 15, some 16, some 17, some 18, none, some 19, none]), .inr (.inl 20), .inr (.inl 20), .inr (.inl 20), .inr (.inl 20), .inr (.inl 20), .inl (1, [some 1, some 14, none, some 21]), .inr (.inl 20), .inl (3, [some 23, some 24, some 25, none]), .inr (.inl 8), .inr (.inl 8), .inr (.inl 8), .inl (8, [some 27, some 28, some 29, some 30, none]), .inr (.inl 6), .inr (.inl 6), .inr (.inl 6), .inr (.inl 6), .inl (6, [some 32, some 33, some 34, some 35, some 36, none]), .inr (.inl 6), .inr (.inl 6), .inr (.inl 6), .inr (.inl 6), .inr (.inl 6), .inl (9, [some 38, some 39, none, none, none, none, none, none]), .inr (.inl 40), .inr (.inl 40), .inr (.inr (1, [41, 43, 45, 47])), .inl (7, [some 42, none, none]), .inr (.inl 60), .inl (7, [some 44, none, none]), .inr (.inl 60), .inl (7, [some 46, none, none]), .inr (.inl 60), .inl (7, [some 48, none, none]), .inr (.inl 60), .inl (11, [none, some 50, some 51, none, some 52, some 53, some 54, some 55, some 56, some 57, some 58, some 59, some 60, some 61, some 62, none, some 63, some 64, some 65, none, some 66, some 67, some 68, some 69, some 70, some 71, none, none, none, some 72, some 73, none, none, none, none, none, some 74, some 75, some 76]), .inr (.inl 20), .inr (.inl 20), .inr (.inl 60), .inr (.inl 60), .inr (.inl 60), .inr (.inl 8), .inr (.inl 8), .inr (.inl 8), .inr (.inl 20), .inr (.inl 20), .inr (.inl 20), .inr (.inl 20), .inr (.inl 20), .inr (.inl 8), .inr (.inl 8), .inr (.inl 8), .inr (.inl 6), .inr (.inl 6), .inr (.inl 6), .inr (.inl 6), .inr (.inl 6), .inr (.inl 6), .inr (.inl 40), .inr (.inl 40), .inr (.inl 4), .inr (.inl 4), .inr (.inl 240)]
def pw_tr (L : pw_Lay) : Value → Value
  | .ref k => .ref (pw_ad L k)
  | v => v
def pw_up (σ : pw_Mem) (k j : Nat) (v : Int32) : pw_Mem := fun a b => if a = k ∧ b = j then v else σ a b
def pw_fv (L : pw_Lay) (σ : pw_Mem) (k j : Nat) : Option Nat → Value
  | none => .int (σ k j)
  | some r => .ref (pw_ad L r)
def pw_fld (L : pw_Lay) (σ : pw_Mem) (k : Nat) (fs : List (Option Nat)) : List Value := fs.mapIdx (fun j f => pw_fv L σ k j f)
def pw_ent (L : pw_Lay) (σ : pw_Mem) (k : Nat) : pw_Sh → va_E
  | .inl (ci, fs) => .inr (ci, pw_fld L σ k fs)
  | .inr (.inl n) => .inl (pw_cI L, n, .inl (σ k))
  | .inr (.inr (0, rs)) => .inl (pw_cB L, rs.length, .inr (.inr (.inr (.inr (fun i => rs[i]?.map (pw_ad L))))))
  | .inr (.inr (_, rs)) => .inl (pw_cS L, rs.length, .inr (.inr (.inr (.inr (fun i => rs[i]?.map (pw_ad L))))))
def pw_wl (L : pw_Lay) (σ : pw_Mem) : va_W := pw_shp.mapIdx (fun k sh => (pw_ad L k, pw_ent L σ k sh))
abbrev pw_tys (L : pw_Lay) : List (ClassId × FieldType) := [(pw_cI L, .int), (pw_cB L, .array .int), (pw_cS L, .object "StackDepths$Sheet")]
def pw_A (L : pw_Lay) : Nat → Prop := fun q => ∃ k, k < pw_shp.length ∧ q = pw_ad L k
def pw_ws : List Cond := lw_tbl.filter goodWord
theorem pw_in {w : Cond} (h : w ∈ lw_tbl) (hg : goodWord w = true) : w ∈ pw_ws := List.mem_filter.mpr ⟨h, hg⟩
theorem pw_good {ws : List Cond} (h : ∀ w ∈ ws, w ∈ pw_ws) : GoodIn pw_ws ws := fun w hw => ⟨h w hw, good_of_word (List.mem_filter.mp (h w hw)).2⟩
theorem pw_tab {w : Cond} (i : Nat) (h : tables_1[i]? = some w) (hg : goodWord w = true) : w ∈ pw_ws := pw_in (List.mem_append_right _ (List.mem_of_getElem? h)) hg
theorem pw_sel {w : Cond} (i : Nat) (h : (k2_sels lw_privs)[i]? = some w) (hg : goodWord w = true) : w ∈ pw_ws := pw_in (List.mem_append_left _ (List.mem_of_getElem? h)) hg
/-- the nest mates' links -/
abbrev pw_nw (q : String × Nat × MethodName) : Cond := .methodLinkNest q.1 q.2.1 q.2.2 "StackDepths"
def pw_nest : List (String × Nat × MethodName) := [("StackDepths", 9, ⟨"StackDepths$Routines", "<init>", "()V"⟩), ("StackDepths", 18, ⟨"StackDepths$Pointers", "<init>", "()V"⟩), ("StackDepths", 25, ⟨"StackDepths$Calls", "<init>", "()V"⟩), ("StackDepths", 50, ⟨"StackDepths$Interrupts", "<init>", "()V"⟩), ("StackDepths", 57, ⟨"StackDepths$Tasks", "<init>", "()V"⟩), ("StackDepths", 64, ⟨"StackDepths$Sharing", "<init>", "()V"⟩), ("StackDepths", 71, ⟨"StackDepths$Trail", "<init>", "()V"⟩), ("StackDepths", 82, ⟨"StackDepths$Sheet", "<init>", "()V"⟩), ("StackDepths$Calls", 16, ⟨"StackDepths", "holds", "(II)Z"⟩), ("StackDepths$Pointers", 28, ⟨"StackDepths", "holds", "(II)Z"⟩), ("StackDepths$Graph", 64, ⟨"StackDepths", "holds", "(II)Z"⟩), ("StackDepths$Graph", 89, ⟨"StackDepths", "leastOf", "(I)I"⟩), ("StackDepths$Depths", 44, ⟨"StackDepths", "holds", "(II)Z"⟩), ("StackDepths$Depths", 89, ⟨"StackDepths", "greater", "(II)I"⟩), ("StackDepths$Depths", 92, ⟨"StackDepths", "plus", "(II)I"⟩), ("StackDepths$Interrupts", 29, ⟨"StackDepths", "plus", "(II)I"⟩), ("StackDepths$Interrupts", 33, ⟨"StackDepths", "greater", "(II)I"⟩)]
def pw_N (U : State) : Prop := ∀ q ∈ pw_nest, va_Nw (pw_nw q) U
theorem pw_N.warm {s U : State} (hW : s.WarmedH U.vm) (h : pw_N s) : pw_N U := fun q hq => va_Nw.warmM hW (h q hq)
theorem pw_N.same {u U : State} (e : u.vm = U.vm) (h : pw_N u) : pw_N U := fun q hq => va_Nw.same rfl e (h q hq)
abbrev pw_cl : List vw_C := vwCl
def pw_rm (d : Nat) : Room := { frames := d, cells := 0, slots := 0, locals := 40 * d }
def pw_E (L : pw_Lay) (M : pw_Md) (p : Program) (s : State) (m : MethodId) (args : Array Value) (meth : Method) (c : Code) : Prop :=
  p.tables.exec = Jvm.exec ∧ c.code = M.2.2.1 ∧ meth.sig.returnType = M.2.2.2.2 ∧ c.maxLocals = M.2.2.2.1 ∧ (∀ w ∈ pw_ws, w.before args s = true) ∧ s.vm.findClass M.2.1 = some m.cls ∧ va_K (pw_G L) pw_cl (pw_tys L) s ∧ pw_N s ∧ meth.locks = false
def pw_W (L : pw_Lay) (σ : pw_Mem) (H0 H : Heap) (locs : List Loc) : Prop := va_P (pw_G L) pw_cl (pw_wl L σ) H ∧ va_D (pw_A L) (pw_wl L σ) ∧ va_S (pw_A L) H0 H locs
def pw_Lc (L : pw_Lay) (nL : Nat) (ls : List (Option Value)) (lsM : Array Slot) : Prop := lsM.size = nL ∧ lv_wf lsM ∧ ∀ (i : Nat) (v : Value), ls[i]? = some (some v) → lsM[i]? = some (.val (pw_tr L v))
abbrev pw_K : Type := Option Value → pw_Mem → Prop
def pw_Q (L : pw_Lay) (K : pw_K) : Array Value → State → Outcome → State → Prop := fun _ st oc t => (∃ (r : Option Value) (σ' : pw_Mem), oc = .returned (r.map (pw_tr L)) ∧ K r σ' ∧ va_P (pw_G L) pw_cl (pw_wl L σ') t.heap) ∧ va_F (pw_A L) st t
def pw_P (L : pw_Lay) (as : List Value) (σ : pw_Mem) : Array Value → State → Prop := va_Pc (as.map (pw_tr L)) (fun U => va_P (pw_G L) pw_cl (pw_wl L σ) U.heap ∧ va_K (pw_G L) pw_cl (pw_tys L) U ∧ va_D (pw_A L) (pw_wl L σ) ∧ pw_N U)
def PW (L : pw_Lay) (d : Nat) (M : pw_Md) (K : pw_K) (pc : Nat) (ls : List (Option Value)) (st : List Value) (σ : pw_Mem) : Prop :=
  ∀ (p : Program) (e : Env) (s : State) (m : MethodId) (args : Array Value) (below : List Frame) (meth : Method) (c : Code) (H : Heap) (locs : List Loc) (lsM : Array Slot),
    pw_E L M p s m args meth c → pw_W L σ s.heap H locs → pw_Lc L M.2.2.2.1 ls lsM →
    W p (pw_l L) e (pw_rm d) s m args below meth c H locs 0 0 (MQ below (pw_Q L K) args s 0 0 (pw_A L)) (F0 m pc lsM (st.map (pw_tr L)))
def CT (L : pw_Lay) (d : Nat) (M : pw_Md) (as : List Value) (σ : pw_Mem) (K : pw_K) : Prop :=
  Met (pw_l L) M.1 (.code M.1 M.2.2.1 M.2.2.2.1 M.2.2.2.2 :: pw_ws) (pw_rm d) (pw_P L as σ) (pw_Q L K) 0 0 (pw_A L)
/-! the world's list -/
theorem pw_wl_at {L : pw_Lay} {σ : pw_Mem} {k : Nat} {sh : pw_Sh} (h : pw_shp[k]? = some sh) : (pw_wl L σ)[k]? = some (pw_ad L k, pw_ent L σ k sh) := by
  unfold pw_wl
  rw [List.getElem?_mapIdx, h]
  rfl
theorem pw_wl_len (L : pw_Lay) (σ : pw_Mem) : (pw_wl L σ).length = pw_shp.length := by unfold pw_wl; rw [List.length_mapIdx]
theorem pw_wl_of {L : pw_Lay} {σ : pw_Mem} {k : Nat} {q : Nat × va_E} (h : (pw_wl L σ)[k]? = some q) : ∃ sh, pw_shp[k]? = some sh ∧ q = (pw_ad L k, pw_ent L σ k sh) := by
  unfold pw_wl at h
  rw [List.getElem?_mapIdx] at h
  cases hs : pw_shp[k]? with
  | none => rw [hs] at h; cases h
  | some sh => rw [hs] at h; exact ⟨sh, rfl, (Option.some.inj h).symm⟩
theorem pw_D_any {L : pw_Lay} {σ τ : pw_Mem} (h : va_D (pw_A L) (pw_wl L σ)) : va_D (pw_A L) (pw_wl L τ) := by
  refine ⟨fun i j x y hi hj hxy => ?_, fun k q hq => ?_⟩
  · obtain ⟨si, h1, rfl⟩ := pw_wl_of hi
    obtain ⟨sj, h2, rfl⟩ := pw_wl_of hj
    exact h.1 i j _ _ (pw_wl_at h1) (pw_wl_at h2) hxy
  · obtain ⟨sh, h1, rfl⟩ := pw_wl_of hq
    exact h.2 k (pw_ad L k, pw_ent L σ k sh) (pw_wl_at h1)
theorem pw_ent_ne {L : pw_Lay} {σ : pw_Mem} {k a j : Nat} {v : Int32} {sh : pw_Sh} (h : a ≠ k) : pw_ent L (pw_up σ k j v) a sh = pw_ent L σ a sh := by
  have e : (pw_up σ k j v) a = σ a := by
    funext b
    simp [pw_up, h]
  have e2 : ∀ fs, pw_fld L (pw_up σ k j v) a fs = pw_fld L σ a fs := fun fs => by
    unfold pw_fld
    congr 1
    funext b f
    cases f with
    | none => show Value.int _ = Value.int _; rw [e]
    | some r => rfl
  match sh with
  | .inl (ci, fs) => show Sum.inr (ci, _) = Sum.inr (ci, _); rw [e2]
  | .inr (.inl n) => show Sum.inl (_, n, Sum.inl _) = Sum.inl (_, n, Sum.inl _); rw [e]
  | .inr (.inr (0, rs)) => rfl
  | .inr (.inr (n + 1, rs)) => rfl
theorem pw_set {L : pw_Lay} {σ : pw_Mem} {k j : Nat} {v : Int32} {sh : pw_Sh} (h : pw_shp[k]? = some sh) : (pw_wl L σ).set k (pw_ad L k, pw_ent L (pw_up σ k j v) k sh) = pw_wl L (pw_up σ k j v) := by
  apply List.ext_getElem?
  intro i
  by_cases hi : i = k
  · subst hi
    rw [pw_wl_at h, List.getElem?_set_self]
    exact (List.getElem?_eq_some_iff.mp (pw_wl_at (L := L) (σ := σ) h)).1
  · rw [List.getElem?_set_ne (fun q => hi q.symm)]
    unfold pw_wl
    rw [List.getElem?_mapIdx, List.getElem?_mapIdx]
    cases pw_shp[i]? with
    | none => rfl
    | some sh => show some (pw_ad L i, pw_ent L σ i sh) = some (pw_ad L i, pw_ent L (pw_up σ k j v) i sh); rw [pw_ent_ne hi]
theorem pw_upd (σ : pw_Mem) (k j : Nat) (v : Int32) : upd (σ k) j v = (pw_up σ k j v) k := by
  funext b
  simp [upd, pw_up]
theorem pw_fset {L : pw_Lay} {σ : pw_Mem} {k j : Nat} {v : Int32} {fs : List (Option Nat)} (h : fs[j]? = some none) : (pw_fld L σ k fs).set j (.int v) = pw_fld L (pw_up σ k j v) k fs := by
  apply List.ext_getElem?
  intro i
  unfold pw_fld
  by_cases hi : i = j
  · subst hi
    rw [List.getElem?_set_self (by rw [List.length_mapIdx]; exact (List.getElem?_eq_some_iff.mp h).1), List.getElem?_mapIdx, h]
    show some _ = some (Value.int _)
    simp [pw_up]
  · rw [List.getElem?_set_ne (fun q => hi q.symm), List.getElem?_mapIdx, List.getElem?_mapIdx]
    cases fs[i]? with
    | none => rfl
    | some f =>
      cases f with
      | none => show some (Value.int _) = some (Value.int _); simp [pw_up, hi]
      | some r => rfl
theorem pw_fld_at {L : pw_Lay} {σ : pw_Mem} {k j : Nat} {fs : List (Option Nat)} {f : Option Nat} (h : fs[j]? = some f) : (pw_fld L σ k fs)[j]? = some (pw_fv L σ k j f) := by
  unfold pw_fld
  rw [List.getElem?_mapIdx, h]
  rfl
theorem pw_setO {L : pw_Lay} {σ : pw_Mem} {k j ci : Nat} {v : Int32} {fs : List (Option Nat)} (hs : pw_shp[k]? = some (.inl (ci, fs))) (hf : fs[j]? = some none) : (pw_wl L σ).set k (pw_ad L k, Sum.inr (ci, (pw_fld L σ k fs).set j (.int v))) = pw_wl L (pw_up σ k j v) := by
  have h := pw_set (L := L) (σ := σ) (j := j) (v := v) hs
  have e : pw_ent L (pw_up σ k j v) k (.inl (ci, fs)) = Sum.inr (ci, (pw_fld L σ k fs).set j (.int v)) := by rw [pw_fset hf]; rfl
  rw [e] at h
  exact h
theorem pw_setA {L : pw_Lay} {σ : pw_Mem} {k j n : Nat} {v : Int32} (hs : pw_shp[k]? = some (.inr (.inl n))) : (pw_wl L σ).set k (pw_ad L k, Sum.inl (pw_cI L, n, Sum.inl (upd (σ k) j v))) = pw_wl L (pw_up σ k j v) := by
  have h := pw_set (L := L) (σ := σ) (j := j) (v := v) hs
  have e : pw_ent L (pw_up σ k j v) k (.inr (.inl n)) = Sum.inl (pw_cI L, n, Sum.inl (upd (σ k) j v)) := by rw [pw_upd]; rfl
  rw [e] at h
  exact h
/-- a field's link, read -/
def pw_FL (own : String) (idx ci j : Nat) : Prop := ∃ (C : String) (T : u_T) (N : Nat), pw_cl[ci]? = some (C, T, N) ∧ j < N ∧ Cond.fieldLink own idx (T j).1 (T j).2.1 (T j).2.2.1 ∈ pw_ws ∧ ∀ w ∈ u_ws C T N, w ∈ pw_ws
/-- a field's link, written -/
def pw_FP (own : String) (idx ci j : Nat) (ty : FieldType) : Prop := ∃ (C : String) (T : u_T) (N : Nat) (ty0 : Nat → FieldType), pw_cl[ci]? = some (C, T, N) ∧ j < N ∧ Cond.fieldLink own idx (T j).1 (T j).2.1 (T j).2.2.1 ∈ pw_ws ∧ (∀ w ∈ u_ws C T N, w ∈ pw_ws) ∧ (∀ k, k < N → parseFieldDescriptor (T k).2.2.1 = some (ty0 k)) ∧ (∀ a, a < N → ∀ b, b < N → a ≠ b → (T a).2.1 ≠ (T b).2.1) ∧ (T j).2.2.2 = false ∧ parseFieldDescriptor (T j).2.2.1 = some ty
section PWR
variable {L : pw_Lay} {d : Nat} {M : pw_Md} {K : pw_K} {pc : Nat} {ls : List (Option Value)} {st : List Value} {σ : pw_Mem}
theorem pw_getI {idx ci k j : Nat} {fs : List (Option Nat)} (hd : decode M.2.2.1 pc = .ok (.getfield idx, 3)) (hl : pw_FL M.2.1 idx ci j) (hs : pw_shp[k]? = some (.inl (ci, fs))) (hf : fs[j]? = some none) (kk : PW L d M K (pc + 3) ls (.int (σ k j) :: st) σ) : PW L d M K pc ls (.ref k :: st) σ := by
  intro p e s m args below meth c H locs lsM hE hW hL
  obtain ⟨C, T, N, h1, h2, h3, h4⟩ := hl
  exact va_get (v := .int (σ k j)) hE.1 hE.2.1 hE.2.2.2.2.1 h4 hE.2.2.2.2.2.1 hE.2.2.2.2.2.2.1 hW.1 k (pw_wl_at hs) h1 j h2 (hE.2.2.2.2.1 _ h3) (fun _ h => h) (pw_fld_at hf) hd (kk p e s m args below meth c H locs lsM hE hW hL)
theorem pw_getR {idx ci k j r : Nat} {fs : List (Option Nat)} (hd : decode M.2.2.1 pc = .ok (.getfield idx, 3)) (hl : pw_FL M.2.1 idx ci j) (hs : pw_shp[k]? = some (.inl (ci, fs))) (hf : fs[j]? = some (some r)) (kk : PW L d M K (pc + 3) ls (.ref r :: st) σ) : PW L d M K pc ls (.ref k :: st) σ := by
  intro p e s m args below meth c H locs lsM hE hW hL
  obtain ⟨C, T, N, h1, h2, h3, h4⟩ := hl
  exact va_get (v := .ref (pw_ad L r)) hE.1 hE.2.1 hE.2.2.2.2.1 h4 hE.2.2.2.2.2.1 hE.2.2.2.2.2.2.1 hW.1 k (pw_wl_at hs) h1 j h2 (hE.2.2.2.2.1 _ h3) (fun _ h => h) (pw_fld_at hf) hd (kk p e s m args below meth c H locs lsM hE hW hL)
theorem pw_put {idx ci k j : Nat} {fs : List (Option Nat)} {ty : FieldType} {v : Int32} (hd : decode M.2.2.1 pc = .ok (.putfield idx, 3)) (hl : pw_FP M.2.1 idx ci j ty) (hs : pw_shp[k]? = some (.inl (ci, fs))) (hf : fs[j]? = some none) (hn : narrow ty (.int v) = .int v) (hft : fits ty (.int v) = true) (kk : PW L d M K (pc + 3) ls st (pw_up σ k j v)) : PW L d M K pc ls (.int v :: .ref k :: st) σ := by
  intro p e s m args below meth c H locs lsM hE hW hL
  obtain ⟨C, T, N, ty0, h1, h2, h3, h4, h5, h6, h7, h8⟩ := hl
  refine va_put (v := .int v) (ty := ty) hE.1 hE.2.1 hE.2.2.2.2.1 h4 ty0 h5 h6 hE.2.2.2.2.2.1 hE.2.2.2.2.2.2.1 hW.1 hW.2.1 hW.2.2 k (pw_wl_at hs) h1 j h2 (hE.2.2.2.2.1 _ h3) (fun _ h => h) h7 h8 hn hft (by unfold pw_fld; rw [List.length_mapIdx]; exact (List.getElem?_eq_some_iff.mp hf).1) hd (fun H1 locs1 hP hD hS => ?_)
  have e9 := pw_setO (L := L) (σ := σ) (v := v) hs hf
  rw [e9] at hP hD
  exact kk p e s m args below meth c H1 locs1 lsM hE ⟨hP, hD, hS⟩ hL
theorem pw_iald {k n : Nat} {i : Int32} (hd : decode M.2.2.1 pc = .ok (.iaload, 1)) (hs : pw_shp[k]? = some (.inr (.inl n))) (hi : vp_in i n) (kk : PW L d M K (pc + 1) ls (.int (σ k i.toNatClampNeg) :: st) σ) : PW L d M K pc ls (.int i :: .ref k :: st) σ := by
  intro p e s m args below meth c H locs lsM hE hW hL
  exact va_iald hE.1 hE.2.1 hE.2.2.2.2.2.2.1 hW.1 k 0 (pw_wl_at hs) rfl hi hd (kk p e s m args below meth c H locs lsM hE hW hL)
theorem pw_iast {k n : Nat} {i x : Int32} (hd : decode M.2.2.1 pc = .ok (.iastore, 1)) (hs : pw_shp[k]? = some (.inr (.inl n))) (hi : vp_in i n) (kk : PW L d M K (pc + 1) ls st (pw_up σ k i.toNatClampNeg x)) : PW L d M K pc ls (.int x :: .int i :: .ref k :: st) σ := by
  intro p e s m args below meth c H locs lsM hE hW hL
  refine va_iast hE.1 hE.2.1 hE.2.2.2.2.2.2.1 hW.1 hW.2.1 hW.2.2 k 0 (pw_wl_at hs) rfl hi hd (fun H1 locs1 hP hD hS => ?_)
  have e9 := pw_setA (L := L) (σ := σ) (j := i.toNatClampNeg) (v := x) hs
  rw [e9] at hP hD
  exact kk p e s m args below meth c H1 locs1 lsM hE ⟨hP, hD, hS⟩ hL
theorem pw_aaldS {k r : Nat} {i : Int32} {rs : List Nat} (hd : decode M.2.2.1 pc = .ok (.aaload, 1)) (hs : pw_shp[k]? = some (.inr (.inr (1, rs)))) (hi : vp_in i rs.length) (hr : rs[i.toNatClampNeg]? = some r) (kk : PW L d M K (pc + 1) ls (.ref r :: st) σ) : PW L d M K pc ls (.int i :: .ref k :: st) σ := by
  intro p e s m args below meth c H locs lsM hE hW hL
  refine va_aldq hE.1 hE.2.1 hE.2.2.2.2.2.2.1 hW.1 k 2 (pw_wl_at hs) rfl hi hd ?_
  show W p (pw_l L) e (pw_rm d) s m args below meth c H locs 0 0 _ (F0 m (pc + 1) lsM (va_rf (rs[i.toNatClampNeg]?.map (pw_ad L)) :: st.map (pw_tr L)))
  rw [hr]
  exact kk p e s m args below meth c H locs lsM hE hW hL
theorem pw_aaldB {k r : Nat} {i : Int32} {rs : List Nat} (hd : decode M.2.2.1 pc = .ok (.aaload, 1)) (hs : pw_shp[k]? = some (.inr (.inr (0, rs)))) (hi : vp_in i rs.length) (hr : rs[i.toNatClampNeg]? = some r) (kk : PW L d M K (pc + 1) ls (.ref r :: st) σ) : PW L d M K pc ls (.int i :: .ref k :: st) σ := by
  intro p e s m args below meth c H locs lsM hE hW hL
  have hK := hE.2.2.2.2.2.2.1
  have ha : (pw_wl L σ)[k]? = some (pw_ad L k, Sum.inl (pw_cB L, rs.length, .inr (.inr (.inr (.inr (fun i => rs[i]?.map (pw_ad L))))))) := pw_wl_at hs
  have hlt : i.toNatClampNeg < rs.length := Nat.not_le.mp fun q => hi (Or.inr q)
  refine W.aald (v := va_rf (rs[i.toNatClampNeg]?.map (pw_ad L))) (ty := .array .int) hE.1 hE.2.1 (hW.1 k _ ha) ((hK.2 1 _ rfl).1 rs.length (fun j => va_rf (rs[j]?.map (pw_ad L)))) rfl (fun q => by cases q) (by show ¬ (i < 0 ∨ (arrV _ _ _).slots.size ≤ _); rw [arrV_size]; exact hi) (by show (arrV _ _ _).slots[_]? = _; rw [arrV_read _ _ hlt]) rfl rfl hd ?_
  rw [hr]
  exact kk p e s m args below meth c H locs lsM hE hW hL
end PWR
end
section
theorem pw_tr_cat (L : pw_Lay) (v : Value) : (pw_tr L v).category = v.category := by cases v <;> rfl
theorem pw_cats (L : pw_Lay) (st : List Value) : ((st.map (pw_tr L)).map fun v => v.category).sum = (st.map fun v => v.category).sum := by
  induction st with
  | nil => rfl
  | cons v vs ih => simp only [List.map_cons, List.sum_cons, pw_tr_cat, ih]
/-- the listed locals, as the kit has them -/
def pw_lv (L : pw_Lay) (ls : List (Option Value)) : List (Nat × Value) := (List.range ls.length).filterMap (fun i => match ls[i]? with
  | some (some v) => some (i, pw_tr L v)
  | _ => none)
theorem pw_lv_in {L : pw_Lay} {ls : List (Option Value)} {i : Nat} {v : Value} (h : ls[i]? = some (some v)) : (i, pw_tr L v) ∈ pw_lv L ls := by
  refine List.mem_filterMap.mpr ⟨i, List.mem_range.mpr (List.getElem?_eq_some_iff.mp h).1, ?_⟩
  rw [h]
theorem pw_lv_of {L : pw_Lay} {ls : List (Option Value)} {q : Nat × Value} (h : q ∈ pw_lv L ls) : ∃ v, ls[q.1]? = some (some v) ∧ q.2 = pw_tr L v := by
  obtain ⟨i, -, hi⟩ := List.mem_filterMap.mp h
  cases e : ls[i]? with
  | none => rw [e] at hi; cases hi
  | some o =>
    cases o with
    | none => rw [e] at hi; cases hi
    | some v =>
      rw [e] at hi
      cases hi
      exact ⟨v, e, rfl⟩
theorem pw_Lc.has {L : pw_Lay} {nL : Nat} {ls : List (Option Value)} {lsM : Array Slot} (h : pw_Lc L nL ls lsM) : lv_has lsM nL (pw_lv L ls) := ⟨h.1, h.2.1, fun q hq => by
  obtain ⟨v, h1, h2⟩ := pw_lv_of hq
  rw [h2]
  exact h.2.2 q.1 v h1⟩
/-- a long that stood below place i is gone -/
def pw_is2 : Option (Option Value) → Bool
  | some (some v) => v.category == 2
  | _ => false
def pw_kill (ls : List (Option Value)) : Nat → List (Option Value)
  | 0 => ls
  | i + 1 => cond (pw_is2 ls[i]?) (ls.set i none) ls
def pw_setL (ls : List (Option Value)) (i : Nat) (v : Value) : List (Option Value) := (pw_kill ls i).set i (some v)
def pw_setL2 (ls : List (Option Value)) (i : Nat) (v : Value) : List (Option Value) := ((pw_kill ls i).set i (some v)).set (i + 1) none
theorem pw_kill_of {ls : List (Option Value)} {i j : Nat} {w : Value} (h : (pw_kill ls i)[j]? = some (some w)) : ls[j]? = some (some w) ∧ ¬ (j + 1 = i ∧ w.category = 2) := by
  cases i with
  | zero => exact ⟨h, fun q => by omega⟩
  | succ i =>
    have e : pw_kill ls (i + 1) = cond (pw_is2 ls[i]?) (ls.set i none) ls := rfl
    rw [e] at h
    cases hc : pw_is2 ls[i]? with
    | true =>
      rw [hc] at h
      have h : (ls.set i none)[j]? = some (some w) := h
      by_cases hj : j = i
      · subst hj
        have hl := (List.getElem?_eq_some_iff.mp h).1
        rw [List.length_set] at hl
        rw [List.getElem?_set_self hl] at h
        cases h
      · rw [List.getElem?_set_ne (fun q => hj q.symm)] at h
        exact ⟨h, fun q => hj (by omega)⟩
    | false =>
      rw [hc] at h
      have h8 : ls[j]? = some (some w) := h
      refine ⟨h8, fun q => ?_⟩
      have e2 : j = i := by omega
      subst e2
      rw [h8] at hc
      have hc : (w.category == 2) = false := hc
      rw [q.2] at hc
      cases hc
theorem pw_Lc.set {L : pw_Lay} {nL i : Nat} {ls : List (Option Value)} {lsM : Array Slot} {v : Value} (h : lv_has lsM nL ((i, pw_tr L v) :: (pw_lv L ls).filter (fun q => !(q.1 == i) && !(q.1 + 1 == i && q.2.category == 2)))) : pw_Lc L nL (pw_setL ls i v) lsM := by
  refine ⟨h.1, h.2.1, fun j w hj => ?_⟩
  unfold pw_setL at hj
  by_cases e : j = i
  · subst e
    have hl : j < ((pw_kill ls j).set j (some v)).length := (List.getElem?_eq_some_iff.mp hj).1
    rw [List.length_set] at hl
    rw [List.getElem?_set_self hl] at hj
    cases hj
    exact h.2.2 (j, pw_tr L v) List.mem_cons_self
  · rw [List.getElem?_set_ne (fun q => e q.symm)] at hj
    obtain ⟨h1, h2⟩ := pw_kill_of hj
    refine h.2.2 (j, pw_tr L w) (List.mem_cons_of_mem _ (List.mem_filter.mpr ⟨pw_lv_in h1, ?_⟩))
    simp only [pw_tr_cat]
    by_cases h3 : j + 1 = i
    · have h4 : ¬ w.category = 2 := fun q => h2 ⟨h3, q⟩
      simp [e, h4]
    · simp [e, h3]
theorem pw_Lc.set2 {L : pw_Lay} {nL i : Nat} {ls : List (Option Value)} {lsM : Array Slot} {v : Value} (h : lv_has lsM nL ((i, pw_tr L v) :: (pw_lv L ls).filter (fun q => !(q.1 == i) && (!(q.1 == i + 1) && !(q.1 + 1 == i && q.2.category == 2))))) : pw_Lc L nL (pw_setL2 ls i v) lsM := by
  refine ⟨h.1, h.2.1, fun j w hj => ?_⟩
  unfold pw_setL2 at hj
  have e0 : ¬ j = i + 1 := fun q => by
    subst q
    have hl := (List.getElem?_eq_some_iff.mp hj).1
    rw [List.length_set] at hl
    rw [List.getElem?_set_self hl] at hj
    cases hj
  rw [List.getElem?_set_ne (fun q => e0 q.symm)] at hj
  by_cases e : j = i
  · subst e
    have hl : j < ((pw_kill ls j).set j (some v)).length := (List.getElem?_eq_some_iff.mp hj).1
    rw [List.length_set] at hl
    rw [List.getElem?_set_self hl] at hj
    cases hj
    exact h.2.2 (j, pw_tr L v) List.mem_cons_self
  · rw [List.getElem?_set_ne (fun q => e q.symm)] at hj
    obtain ⟨h1, h2⟩ := pw_kill_of hj
    refine h.2.2 (j, pw_tr L w) (List.mem_cons_of_mem _ (List.mem_filter.mpr ⟨pw_lv_in h1, ?_⟩))
    simp only [pw_tr_cat]
    by_cases h3 : j + 1 = i
    · have h4 : ¬ w.category = 2 := fun q => h2 ⟨h3, q⟩
      simp [e, e0, h4]
    · simp [e, e0, h3]
/-- the locals at the entry -/
def pw_args : List Value → List (Option Value)
  | [] => []
  | v :: vs => if v.category = 2 then some v :: none :: pw_args vs else some v :: pw_args vs
theorem pw_args_in (L : pw_Lay) (as : List Value) : ∀ (o i : Nat) (v : Value), (pw_args as)[i]? = some (some v) → (o + i, pw_tr L v) ∈ lv_args o (as.map (pw_tr L)) := by
  induction as with
  | nil => intro o i v h; simp [pw_args] at h
  | cons a as ih =>
    intro o i v h
    unfold pw_args at h
    by_cases hc : a.category = 2
    · rw [if_pos hc] at h
      simp only [List.map_cons, lv_args, pw_tr_cat, hc, if_true]
      match i, h with
      | 0, h => cases h; exact List.mem_cons_self
      | 1, h => cases h
      | i + 2, h =>
        have h2 := ih (o + 2) i v h
        rw [show o + 2 + i = o + (i + 2) by omega] at h2
        exact List.mem_cons_of_mem _ h2
    · rw [if_neg hc] at h
      simp only [List.map_cons, lv_args, pw_tr_cat, hc, if_false]
      match i, h with
      | 0, h => cases h; exact List.mem_cons_self
      | i + 1, h =>
        have h2 := ih (o + 1) i v h
        rw [show o + 1 + i = o + (i + 1) by omega] at h2
        exact List.mem_cons_of_mem _ h2
section PWS
variable {L : pw_Lay} {d : Nat} {M : pw_Md} {K : pw_K} {pc : Nat} {ls : List (Option Value)} {st : List Value} {σ : pw_Mem}
theorem pw_enter {as : List Value} (hy : plainName M.1.cls = true) (ho : M.1.cls = M.2.1) (hle : (lg_sl (as.map (pw_tr L))).length ≤ M.2.2.2.1) {ls : List (Option Value)} (hls : pw_args as ++ List.replicate (M.2.2.2.1 - (pw_args as).length) none = ls) (h : PW L d M K 0 ls [] σ) : CT L d M as σ K := by
  refine Met.ofW (cc := M.2.2.1) (maxL := M.2.2.2.1) (ret := M.2.2.2.2) hy rfl ?_
  intro p e s m args below meth c s₁ B hml hv
  obtain ⟨rfl, hP, hK, hD, hN⟩ := hv
  have hts := atoms_spec (ws := .code M.1 M.2.2.1 M.2.2.2.1 M.2.2.2.2 :: pw_ws) B.pre
  have hown : s.vm.findClass M.1.cls = some m.cls := findClass_of_methodNamed B.named
  have hl := lv_entry (as.map (pw_tr L)) (n := M.2.2.2.1) hle
  rw [lg_entry_eq]
  generalize (lg_sl (as.map (pw_tr L)) ++ List.replicate (M.2.2.2.1 - (lg_sl (as.map (pw_tr L))).length) Slot.unset).toArray = lsM at hl ⊢
  refine h p e s m _ below meth c s.heap [] lsM ⟨B.exec, B.bytes, B.returns, hml, fun w hw => hts w (List.mem_cons_of_mem _ hw), by rw [← ho]; exact hown, hK, hN, B.notSynchronized⟩ ⟨hP, hD, va_S.rf⟩ ⟨hl.1, hl.2.1, fun i v hi => ?_⟩
  rw [← hls] at hi
  have hlt : i < (pw_args as).length := by
    refine Nat.lt_of_not_le fun q => ?_
    rw [List.getElem?_append_right q] at hi
    have := List.eq_of_mem_replicate (List.mem_of_getElem? hi)
    cases this
  rw [List.getElem?_append_left hlt] at hi
  have := hl.2.2 _ (pw_args_in L as 0 i v hi)
  rw [Nat.zero_add] at this
  exact this

theorem pw_iconst {n : Int} {v : Int32} (hd : decode M.2.2.1 pc = .ok (.iconst n, 1)) (hv : Int32.ofInt n = v) (kk : PW L d M K (pc + 1) ls (.int v :: st) σ) : PW L d M K pc ls st σ := by
  intro p e s m args below meth c H locs lsM hE hW hL
  exact lv_iconst hE.1 hE.2.1 hd hv (kk p e s m args below meth c H locs lsM hE hW hL)
theorem pw_bipush {n : Int} {v : Int32} (hd : decode M.2.2.1 pc = .ok (.bipush n, 2)) (hv : (Int8.ofInt n).toInt32 = v) (kk : PW L d M K (pc + 2) ls (.int v :: st) σ) : PW L d M K pc ls st σ := by
  intro p e s m args below meth c H locs lsM hE hW hL
  exact lv_bipush hE.1 hE.2.1 hd hv (kk p e s m args below meth c H locs lsM hE hW hL)
theorem pw_sipush {n : Int} {v : Int32} (hd : decode M.2.2.1 pc = .ok (.sipush n, 3)) (hv : (Int16.ofInt n).toInt32 = v) (kk : PW L d M K (pc + 3) ls (.int v :: st) σ) : PW L d M K pc ls st σ := by
  intro p e s m args below meth c H locs lsM hE hW hL
  exact lv_sipush hE.1 hE.2.1 hd hv (kk p e s m args below meth c H locs lsM hE hW hL)
theorem pw_lconst {n : Fin 2} {v : Int64} (hd : decode M.2.2.1 pc = .ok (.lconst n, 1)) (hv : Int64.ofNat (n : Nat) = v) (kk : PW L d M K (pc + 1) ls (.long v :: st) σ) : PW L d M K pc ls st σ := by
  intro p e s m args below meth c H locs lsM hE hW hL
  exact lv_lconst hE.1 hE.2.1 hd hv (kk p e s m args below meth c H locs lsM hE hW hL)
theorem pw_ldc {idx : Nat} {v : Int32} (hd : decode M.2.2.1 pc = .ok (.ldc idx, 2)) (hw : Jvm.Cond.constant M.2.1 idx v ∈ pw_ws) (kk : PW L d M K (pc + 2) ls (.int v :: st) σ) : PW L d M K pc ls st σ := by
  intro p e s m args below meth c H locs lsM hE hW hL
  exact lv_ldc hE.1 hE.2.1 hE.2.2.2.2.2.1 (hE.2.2.2.2.1 _ hw) hd (kk p e s m args below meth c H locs lsM hE hW hL)
theorem pw_ldcw {idx : Nat} {v : Int32} (hd : decode M.2.2.1 pc = .ok (.ldc_w idx, 3)) (hw : Jvm.Cond.constant M.2.1 idx v ∈ pw_ws) (kk : PW L d M K (pc + 3) ls (.int v :: st) σ) : PW L d M K pc ls st σ := by
  intro p e s m args below meth c H locs lsM hE hW hL
  exact lv_ldcw hE.1 hE.2.1 hE.2.2.2.2.2.1 (hE.2.2.2.2.1 _ hw) hd (kk p e s m args below meth c H locs lsM hE hW hL)
theorem pw_ldc2 {idx : Nat} {v : Int64} (hd : decode M.2.2.1 pc = .ok (.ldc2_w idx, 3)) (hw : Jvm.Cond.constantLong M.2.1 idx v ∈ pw_ws) (kk : PW L d M K (pc + 3) ls (.long v :: st) σ) : PW L d M K pc ls st σ := by
  intro p e s m args below meth c H locs lsM hE hW hL
  exact lv_ldc2 hE.1 hE.2.1 hE.2.2.2.2.2.1 (hE.2.2.2.2.1 _ hw) hd (kk p e s m args below meth c H locs lsM hE hW hL)
theorem pw_iload_n {k : Fin 4} {i : Nat} {x : Int32} (hd : decode M.2.2.1 pc = .ok (.iload_n k, 1)) (hi : (k : Nat) = i) (hl : ls[i]? = some (some (.int x))) (kk : PW L d M K (pc + 1) ls (.int x :: st) σ) : PW L d M K pc ls st σ := by
  intro p e s m args below meth c H locs lsM hE hW hL
  exact lv_iload_n hE.1 hE.2.1 hd hi (hL.2.2 _ _ hl) (kk p e s m args below meth c H locs lsM hE hW hL)
theorem pw_iload {i : Nat} {x : Int32} (hd : decode M.2.2.1 pc = .ok (.iload i, 2)) (hl : ls[i]? = some (some (.int x))) (kk : PW L d M K (pc + 2) ls (.int x :: st) σ) : PW L d M K pc ls st σ := by
  intro p e s m args below meth c H locs lsM hE hW hL
  exact lv_iload hE.1 hE.2.1 hd (hL.2.2 _ _ hl) (kk p e s m args below meth c H locs lsM hE hW hL)
theorem pw_lload_n {k : Fin 4} {i : Nat} {x : Int64} (hd : decode M.2.2.1 pc = .ok (.lload_n k, 1)) (hi : (k : Nat) = i) (hl : ls[i]? = some (some (.long x))) (kk : PW L d M K (pc + 1) ls (.long x :: st) σ) : PW L d M K pc ls st σ := by
  intro p e s m args below meth c H locs lsM hE hW hL
  exact lv_lload_n hE.1 hE.2.1 hd hi (hL.2.2 _ _ hl) (kk p e s m args below meth c H locs lsM hE hW hL)
theorem pw_lload {i : Nat} {x : Int64} (hd : decode M.2.2.1 pc = .ok (.lload i, 2)) (hl : ls[i]? = some (some (.long x))) (kk : PW L d M K (pc + 2) ls (.long x :: st) σ) : PW L d M K pc ls st σ := by
  intro p e s m args below meth c H locs lsM hE hW hL
  exact lv_lload hE.1 hE.2.1 hd (hL.2.2 _ _ hl) (kk p e s m args below meth c H locs lsM hE hW hL)
theorem pw_aload_n {k : Fin 4} {i : Nat} {x : Nat} (hd : decode M.2.2.1 pc = .ok (.aload_n k, 1)) (hi : (k : Nat) = i) (hl : ls[i]? = some (some (.ref x))) (kk : PW L d M K (pc + 1) ls (.ref x :: st) σ) : PW L d M K pc ls st σ := by
  intro p e s m args below meth c H locs lsM hE hW hL
  exact lv_aload_n hE.1 hE.2.1 hd hi (hL.2.2 _ _ hl) (kk p e s m args below meth c H locs lsM hE hW hL)
theorem pw_aload {i : Nat} {x : Nat} (hd : decode M.2.2.1 pc = .ok (.aload i, 2)) (hl : ls[i]? = some (some (.ref x))) (kk : PW L d M K (pc + 2) ls (.ref x :: st) σ) : PW L d M K pc ls st σ := by
  intro p e s m args below meth c H locs lsM hE hW hL
  exact lv_aload hE.1 hE.2.1 hd (hL.2.2 _ _ hl) (kk p e s m args below meth c H locs lsM hE hW hL)
theorem pw_istore_n {k : Fin 4} {i : Nat} {x : Int32} {ls' : List (Option Value)} (hd : decode M.2.2.1 pc = .ok (.istore_n k, 1)) (hi : (k : Nat) = i) (hn : i < M.2.2.2.1) (hl : pw_setL ls i (.int x) = ls') (kk : PW L d M K (pc + 1) ls' st σ) : PW L d M K pc ls (.int x :: st) σ := by
  intro p e s m args below meth c H locs lsM hE hW hL
  subst hl
  exact lv_istore_n hE.1 hE.2.1 hd hi hL.has hn rfl (fun ls9 h9 => kk p e s m args below meth c H locs ls9 hE hW (pw_Lc.set h9))
theorem pw_istore {i : Nat} {x : Int32} {ls' : List (Option Value)} (hd : decode M.2.2.1 pc = .ok (.istore i, 2)) (hn : i < M.2.2.2.1) (hl : pw_setL ls i (.int x) = ls') (kk : PW L d M K (pc + 2) ls' st σ) : PW L d M K pc ls (.int x :: st) σ := by
  intro p e s m args below meth c H locs lsM hE hW hL
  subst hl
  exact lv_istore hE.1 hE.2.1 hd hL.has hn rfl (fun ls9 h9 => kk p e s m args below meth c H locs ls9 hE hW (pw_Lc.set h9))
theorem pw_astore_n {k : Fin 4} {i : Nat} {x : Nat} {ls' : List (Option Value)} (hd : decode M.2.2.1 pc = .ok (.astore_n k, 1)) (hi : (k : Nat) = i) (hn : i < M.2.2.2.1) (hl : pw_setL ls i (.ref x) = ls') (kk : PW L d M K (pc + 1) ls' st σ) : PW L d M K pc ls (.ref x :: st) σ := by
  intro p e s m args below meth c H locs lsM hE hW hL
  subst hl
  exact lv_astore_n hE.1 hE.2.1 hd hi hL.has hn rfl (fun ls9 h9 => kk p e s m args below meth c H locs ls9 hE hW (pw_Lc.set h9))
theorem pw_astore {i : Nat} {x : Nat} {ls' : List (Option Value)} (hd : decode M.2.2.1 pc = .ok (.astore i, 2)) (hn : i < M.2.2.2.1) (hl : pw_setL ls i (.ref x) = ls') (kk : PW L d M K (pc + 2) ls' st σ) : PW L d M K pc ls (.ref x :: st) σ := by
  intro p e s m args below meth c H locs lsM hE hW hL
  subst hl
  exact lv_astore hE.1 hE.2.1 hd hL.has hn rfl (fun ls9 h9 => kk p e s m args below meth c H locs ls9 hE hW (pw_Lc.set h9))
theorem pw_lstore {i : Nat} {x : Int64} {ls' : List (Option Value)} (hd : decode M.2.2.1 pc = .ok (.lstore i, 2)) (hn : i + 1 < M.2.2.2.1) (hl : pw_setL2 ls i (.long x) = ls') (kk : PW L d M K (pc + 2) ls' st σ) : PW L d M K pc ls (.long x :: st) σ := by
  intro p e s m args below meth c H locs lsM hE hW hL
  subst hl
  exact lv_lstore hE.1 hE.2.1 hd hL.has hn rfl (fun ls9 h9 => kk p e s m args below meth c H locs ls9 hE hW (pw_Lc.set2 h9))
theorem pw_iinc {i : Nat} {n : Int} {x v : Int32} {ls' : List (Option Value)} (hd : decode M.2.2.1 pc = .ok (.iinc i n, 3)) (hx : ls[i]? = some (some (.int x))) (hv : x + Int32.ofInt n = v) (hn : i < M.2.2.2.1) (hl : pw_setL ls i (.int v) = ls') (kk : PW L d M K (pc + 3) ls' st σ) : PW L d M K pc ls st σ := by
  intro p e s m args below meth c H locs lsM hE hW hL
  subst hl
  obtain ⟨k9, hk9⟩ := List.getElem?_of_mem (pw_lv_in (L := L) hx)
  exact lv_iinc hE.1 hE.2.1 hd hL.has hk9 hv hn rfl (fun ls9 h9 => kk p e s m args below meth c H locs ls9 hE hW (pw_Lc.set h9))
theorem pw_iadd {x y : Int32} (hd : decode M.2.2.1 pc = .ok (.iadd, 1)) (kk : PW L d M K (pc + 1) ls (.int (x + y) :: st) σ) : PW L d M K pc ls (.int y :: .int x :: st) σ := by
  intro p e s m args below meth c H locs lsM hE hW hL
  exact lv_iadd hE.1 hE.2.1 hd (kk p e s m args below meth c H locs lsM hE hW hL)
theorem pw_isub {x y : Int32} (hd : decode M.2.2.1 pc = .ok (.isub, 1)) (kk : PW L d M K (pc + 1) ls (.int (x - y) :: st) σ) : PW L d M K pc ls (.int y :: .int x :: st) σ := by
  intro p e s m args below meth c H locs lsM hE hW hL
  exact lv_isub hE.1 hE.2.1 hd (kk p e s m args below meth c H locs lsM hE hW hL)
theorem pw_imul {x y : Int32} (hd : decode M.2.2.1 pc = .ok (.imul, 1)) (kk : PW L d M K (pc + 1) ls (.int (x * y) :: st) σ) : PW L d M K pc ls (.int y :: .int x :: st) σ := by
  intro p e s m args below meth c H locs lsM hE hW hL
  exact lv_imul hE.1 hE.2.1 hd (kk p e s m args below meth c H locs lsM hE hW hL)
theorem pw_iand {x y : Int32} (hd : decode M.2.2.1 pc = .ok (.iand, 1)) (kk : PW L d M K (pc + 1) ls (.int (x &&& y) :: st) σ) : PW L d M K pc ls (.int y :: .int x :: st) σ := by
  intro p e s m args below meth c H locs lsM hE hW hL
  exact lv_iand hE.1 hE.2.1 hd (kk p e s m args below meth c H locs lsM hE hW hL)
theorem pw_ior {x y : Int32} (hd : decode M.2.2.1 pc = .ok (.ior, 1)) (kk : PW L d M K (pc + 1) ls (.int (x ||| y) :: st) σ) : PW L d M K pc ls (.int y :: .int x :: st) σ := by
  intro p e s m args below meth c H locs lsM hE hW hL
  exact lv_ior hE.1 hE.2.1 hd (kk p e s m args below meth c H locs lsM hE hW hL)
theorem pw_ixor {x y : Int32} (hd : decode M.2.2.1 pc = .ok (.ixor, 1)) (kk : PW L d M K (pc + 1) ls (.int (x ^^^ y) :: st) σ) : PW L d M K pc ls (.int y :: .int x :: st) σ := by
  intro p e s m args below meth c H locs lsM hE hW hL
  exact lv_ixor hE.1 hE.2.1 hd (kk p e s m args below meth c H locs lsM hE hW hL)
theorem pw_ishl {x y : Int32} (hd : decode M.2.2.1 pc = .ok (.ishl, 1)) (kk : PW L d M K (pc + 1) ls (.int (x <<< (y &&& 31)) :: st) σ) : PW L d M K pc ls (.int y :: .int x :: st) σ := by
  intro p e s m args below meth c H locs lsM hE hW hL
  exact lv_ishl hE.1 hE.2.1 hd (kk p e s m args below meth c H locs lsM hE hW hL)
theorem pw_ishr {x y : Int32} (hd : decode M.2.2.1 pc = .ok (.ishr, 1)) (kk : PW L d M K (pc + 1) ls (.int (x >>> (y &&& 31)) :: st) σ) : PW L d M K pc ls (.int y :: .int x :: st) σ := by
  intro p e s m args below meth c H locs lsM hE hW hL
  exact lv_ishr hE.1 hE.2.1 hd (kk p e s m args below meth c H locs lsM hE hW hL)
theorem pw_irem {x y : Int32} (hd : decode M.2.2.1 pc = .ok (.irem, 1)) (hne : ¬ y = 0) (kk : PW L d M K (pc + 1) ls (.int (x - x / y * y) :: st) σ) : PW L d M K pc ls (.int y :: .int x :: st) σ := by
  intro p e s m args below meth c H locs lsM hE hW hL
  exact lv_irem hE.1 hE.2.1 hd hne (kk p e s m args below meth c H locs lsM hE hW hL)
theorem pw_iushr {x y v : Int32} (hd : decode M.2.2.1 pc = .ok (.iushr, 1)) (hv : (x.toUInt32 >>> (y.toUInt32 &&& Int32.toUInt32 31)).toInt32 = v) (kk : PW L d M K (pc + 1) ls (.int v :: st) σ) : PW L d M K pc ls (.int y :: .int x :: st) σ := by
  intro p e s m args below meth c H locs lsM hE hW hL
  exact lv_iushr hE.1 hE.2.1 hd hv (kk p e s m args below meth c H locs lsM hE hW hL)
theorem pw_i2l {x : Int32} (hd : decode M.2.2.1 pc = .ok (.i2l, 1)) (kk : PW L d M K (pc + 1) ls (.long x.toInt64 :: st) σ) : PW L d M K pc ls (.int x :: st) σ := by
  intro p e s m args below meth c H locs lsM hE hW hL
  exact lv_i2l hE.1 hE.2.1 hd rfl (kk p e s m args below meth c H locs lsM hE hW hL)
theorem pw_l2i {x : Int64} (hd : decode M.2.2.1 pc = .ok (.l2i, 1)) (kk : PW L d M K (pc + 1) ls (.int x.toInt32 :: st) σ) : PW L d M K pc ls (.long x :: st) σ := by
  intro p e s m args below meth c H locs lsM hE hW hL
  exact lv_l2i hE.1 hE.2.1 hd rfl (kk p e s m args below meth c H locs lsM hE hW hL)
theorem pw_i2b {x : Int32} (hd : decode M.2.2.1 pc = .ok (.i2b, 1)) (kk : PW L d M K (pc + 1) ls (.int x.toInt8.toInt32 :: st) σ) : PW L d M K pc ls (.int x :: st) σ := by
  intro p e s m args below meth c H locs lsM hE hW hL
  exact lv_i2b hE.1 hE.2.1 hd rfl (kk p e s m args below meth c H locs lsM hE hW hL)
theorem pw_i2s {x : Int32} (hd : decode M.2.2.1 pc = .ok (.i2s, 1)) (kk : PW L d M K (pc + 1) ls (.int x.toInt16.toInt32 :: st) σ) : PW L d M K pc ls (.int x :: st) σ := by
  intro p e s m args below meth c H locs lsM hE hW hL
  exact lv_i2s hE.1 hE.2.1 hd rfl (kk p e s m args below meth c H locs lsM hE hW hL)
theorem pw_ladd {x y : Int64} (hd : decode M.2.2.1 pc = .ok (.ladd, 1)) (kk : PW L d M K (pc + 1) ls (.long (x + y) :: st) σ) : PW L d M K pc ls (.long y :: .long x :: st) σ := by
  intro p e s m args below meth c H locs lsM hE hW hL
  exact lv_ladd hE.1 hE.2.1 hd (kk p e s m args below meth c H locs lsM hE hW hL)
theorem pw_lcmp {x y : Int64} (hd : decode M.2.2.1 pc = .ok (.lcmp, 1)) (kk : PW L d M K (pc + 1) ls (.int (lg_cmp x y) :: st) σ) : PW L d M K pc ls (.long y :: .long x :: st) σ := by
  intro p e s m args below meth c H locs lsM hE hW hL
  exact W.lcmp hE.1 hE.2.1 hd (kk p e s m args below meth c H locs lsM hE hW hL)
theorem pw_dup {v : Value} (hd : decode M.2.2.1 pc = .ok (.dup, 1)) (hc : v.category = 1) (kk : PW L d M K (pc + 1) ls (v :: v :: st) σ) : PW L d M K pc ls (v :: st) σ := by
  intro p e s m args below meth c H locs lsM hE hW hL
  exact lv_dup hE.1 hE.2.1 hd ((pw_tr_cat L v).trans hc) (kk p e s m args below meth c H locs lsM hE hW hL)
theorem pw_pop {v : Value} (hd : decode M.2.2.1 pc = .ok (.pop, 1)) (hc : v.category = 1) (kk : PW L d M K (pc + 1) ls st σ) : PW L d M K pc ls (v :: st) σ := by
  intro p e s m args below meth c H locs lsM hE hW hL
  exact lv_pop hE.1 hE.2.1 hd ((pw_tr_cat L v).trans hc) (kk p e s m args below meth c H locs lsM hE hW hL)
theorem pw_dup2 {v w : Value} (hd : decode M.2.2.1 pc = .ok (.dup2, 1)) (hc : v.category = 1) (hc2 : w.category = 1) (kk : PW L d M K (pc + 1) ls (v :: w :: v :: w :: st) σ) : PW L d M K pc ls (v :: w :: st) σ := by
  intro p e s m args below meth c H locs lsM hE hW hL
  exact lv_dup2_11 hE.1 hE.2.1 hd ((pw_tr_cat L v).trans hc) ((pw_tr_cat L w).trans hc2) (kk p e s m args below meth c H locs lsM hE hW hL)
theorem pw_if_eq {x : Int32} {off : Int} {tgt : Nat} (hd : decode M.2.2.1 pc = .ok (.ifCond .eq off, 3)) (ht : (pc : Int) + off = (tgt : Int)) (kt : x = 0 → PW L d M K tgt ls st σ) (kf : ¬ x = 0 → PW L d M K (pc + 3) ls st σ) : PW L d M K pc ls (.int x :: st) σ := by
  intro p e s m args below meth c H locs lsM hE hW hL
  exact lv_if_eq hE.1 hE.2.1 hd ht (fun q => kt q p e s m args below meth c H locs lsM hE hW hL) (fun q => kf q p e s m args below meth c H locs lsM hE hW hL)
theorem pw_icmp_eq {x y : Int32} {off : Int} {tgt : Nat} (hd : decode M.2.2.1 pc = .ok (.if_icmp .eq off, 3)) (ht : (pc : Int) + off = (tgt : Int)) (kt : x = y → PW L d M K tgt ls st σ) (kf : ¬ x = y → PW L d M K (pc + 3) ls st σ) : PW L d M K pc ls (.int y :: .int x :: st) σ := by
  intro p e s m args below meth c H locs lsM hE hW hL
  exact lv_icmp_eq hE.1 hE.2.1 hd ht (fun q => kt q p e s m args below meth c H locs lsM hE hW hL) (fun q => kf q p e s m args below meth c H locs lsM hE hW hL)
theorem pw_if_ne {x : Int32} {off : Int} {tgt : Nat} (hd : decode M.2.2.1 pc = .ok (.ifCond .ne off, 3)) (ht : (pc : Int) + off = (tgt : Int)) (kt : ¬ x = 0 → PW L d M K tgt ls st σ) (kf : x = 0 → PW L d M K (pc + 3) ls st σ) : PW L d M K pc ls (.int x :: st) σ := by
  intro p e s m args below meth c H locs lsM hE hW hL
  exact lv_if_ne hE.1 hE.2.1 hd ht (fun q => kt q p e s m args below meth c H locs lsM hE hW hL) (fun q => kf q p e s m args below meth c H locs lsM hE hW hL)
theorem pw_icmp_ne {x y : Int32} {off : Int} {tgt : Nat} (hd : decode M.2.2.1 pc = .ok (.if_icmp .ne off, 3)) (ht : (pc : Int) + off = (tgt : Int)) (kt : ¬ x = y → PW L d M K tgt ls st σ) (kf : x = y → PW L d M K (pc + 3) ls st σ) : PW L d M K pc ls (.int y :: .int x :: st) σ := by
  intro p e s m args below meth c H locs lsM hE hW hL
  exact lv_icmp_ne hE.1 hE.2.1 hd ht (fun q => kt q p e s m args below meth c H locs lsM hE hW hL) (fun q => kf q p e s m args below meth c H locs lsM hE hW hL)
theorem pw_if_lt {x : Int32} {off : Int} {tgt : Nat} (hd : decode M.2.2.1 pc = .ok (.ifCond .lt off, 3)) (ht : (pc : Int) + off = (tgt : Int)) (kt : x < 0 → PW L d M K tgt ls st σ) (kf : ¬ x < 0 → PW L d M K (pc + 3) ls st σ) : PW L d M K pc ls (.int x :: st) σ := by
  intro p e s m args below meth c H locs lsM hE hW hL
  exact lv_if_lt hE.1 hE.2.1 hd ht (fun q => kt q p e s m args below meth c H locs lsM hE hW hL) (fun q => kf q p e s m args below meth c H locs lsM hE hW hL)
theorem pw_icmp_lt {x y : Int32} {off : Int} {tgt : Nat} (hd : decode M.2.2.1 pc = .ok (.if_icmp .lt off, 3)) (ht : (pc : Int) + off = (tgt : Int)) (kt : x < y → PW L d M K tgt ls st σ) (kf : ¬ x < y → PW L d M K (pc + 3) ls st σ) : PW L d M K pc ls (.int y :: .int x :: st) σ := by
  intro p e s m args below meth c H locs lsM hE hW hL
  exact lv_icmp_lt hE.1 hE.2.1 hd ht (fun q => kt q p e s m args below meth c H locs lsM hE hW hL) (fun q => kf q p e s m args below meth c H locs lsM hE hW hL)
theorem pw_if_ge {x : Int32} {off : Int} {tgt : Nat} (hd : decode M.2.2.1 pc = .ok (.ifCond .ge off, 3)) (ht : (pc : Int) + off = (tgt : Int)) (kt : 0 ≤ x → PW L d M K tgt ls st σ) (kf : ¬ 0 ≤ x → PW L d M K (pc + 3) ls st σ) : PW L d M K pc ls (.int x :: st) σ := by
  intro p e s m args below meth c H locs lsM hE hW hL
  exact lv_if_ge hE.1 hE.2.1 hd ht (fun q => kt q p e s m args below meth c H locs lsM hE hW hL) (fun q => kf q p e s m args below meth c H locs lsM hE hW hL)
theorem pw_icmp_ge {x y : Int32} {off : Int} {tgt : Nat} (hd : decode M.2.2.1 pc = .ok (.if_icmp .ge off, 3)) (ht : (pc : Int) + off = (tgt : Int)) (kt : y ≤ x → PW L d M K tgt ls st σ) (kf : ¬ y ≤ x → PW L d M K (pc + 3) ls st σ) : PW L d M K pc ls (.int y :: .int x :: st) σ := by
  intro p e s m args below meth c H locs lsM hE hW hL
  exact lv_icmp_ge hE.1 hE.2.1 hd ht (fun q => kt q p e s m args below meth c H locs lsM hE hW hL) (fun q => kf q p e s m args below meth c H locs lsM hE hW hL)
theorem pw_if_gt {x : Int32} {off : Int} {tgt : Nat} (hd : decode M.2.2.1 pc = .ok (.ifCond .gt off, 3)) (ht : (pc : Int) + off = (tgt : Int)) (kt : 0 < x → PW L d M K tgt ls st σ) (kf : ¬ 0 < x → PW L d M K (pc + 3) ls st σ) : PW L d M K pc ls (.int x :: st) σ := by
  intro p e s m args below meth c H locs lsM hE hW hL
  exact lv_if_gt hE.1 hE.2.1 hd ht (fun q => kt q p e s m args below meth c H locs lsM hE hW hL) (fun q => kf q p e s m args below meth c H locs lsM hE hW hL)
theorem pw_icmp_gt {x y : Int32} {off : Int} {tgt : Nat} (hd : decode M.2.2.1 pc = .ok (.if_icmp .gt off, 3)) (ht : (pc : Int) + off = (tgt : Int)) (kt : y < x → PW L d M K tgt ls st σ) (kf : ¬ y < x → PW L d M K (pc + 3) ls st σ) : PW L d M K pc ls (.int y :: .int x :: st) σ := by
  intro p e s m args below meth c H locs lsM hE hW hL
  exact lv_icmp_gt hE.1 hE.2.1 hd ht (fun q => kt q p e s m args below meth c H locs lsM hE hW hL) (fun q => kf q p e s m args below meth c H locs lsM hE hW hL)
theorem pw_if_le {x : Int32} {off : Int} {tgt : Nat} (hd : decode M.2.2.1 pc = .ok (.ifCond .le off, 3)) (ht : (pc : Int) + off = (tgt : Int)) (kt : x ≤ 0 → PW L d M K tgt ls st σ) (kf : ¬ x ≤ 0 → PW L d M K (pc + 3) ls st σ) : PW L d M K pc ls (.int x :: st) σ := by
  intro p e s m args below meth c H locs lsM hE hW hL
  exact lv_if_le hE.1 hE.2.1 hd ht (fun q => kt q p e s m args below meth c H locs lsM hE hW hL) (fun q => kf q p e s m args below meth c H locs lsM hE hW hL)
theorem pw_icmp_le {x y : Int32} {off : Int} {tgt : Nat} (hd : decode M.2.2.1 pc = .ok (.if_icmp .le off, 3)) (ht : (pc : Int) + off = (tgt : Int)) (kt : x ≤ y → PW L d M K tgt ls st σ) (kf : ¬ x ≤ y → PW L d M K (pc + 3) ls st σ) : PW L d M K pc ls (.int y :: .int x :: st) σ := by
  intro p e s m args below meth c H locs lsM hE hW hL
  exact lv_icmp_le hE.1 hE.2.1 hd ht (fun q => kt q p e s m args below meth c H locs lsM hE hW hL) (fun q => kf q p e s m args below meth c H locs lsM hE hW hL)
theorem pw_goto {off : Int} {tgt : Nat} (hd : decode M.2.2.1 pc = .ok (.goto off, 3)) (ht : (pc : Int) + off = (tgt : Int)) (kk : PW L d M K tgt ls st σ) : PW L d M K pc ls st σ := by
  intro p e s m args below meth c H locs lsM hE hW hL
  exact lv_goto hE.1 hE.2.1 hd ht (kk p e s m args below meth c H locs lsM hE hW hL)
theorem pw_tabO {dflt lo hi : Int} {offs : Array Int} {len : Nat} {x : Int32} {tgt : Nat} (hd : decode M.2.2.1 pc = .ok (.tableswitch dflt lo hi offs, len)) (h : x.toInt < lo ∨ hi < x.toInt) (ht : (pc : Int) + dflt = (tgt : Int)) (kk : PW L d M K tgt ls st σ) : PW L d M K pc ls (.int x :: st) σ := by
  intro p e s m args below meth c H locs lsM hE hW hL
  exact lv_tableOut hE.1 hE.2.1 hd h ht (kk p e s m args below meth c H locs lsM hE hW hL)
theorem pw_tabI {dflt lo hi off : Int} {offs : Array Int} {len : Nat} {x : Int32} {tgt : Nat} (hd : decode M.2.2.1 pc = .ok (.tableswitch dflt lo hi offs, len)) (h1 : ¬ x.toInt < lo) (h2 : ¬ hi < x.toInt) (ho : offs[(x.toInt - lo).toNat]? = some off) (ht : (pc : Int) + off = (tgt : Int)) (kk : PW L d M K tgt ls st σ) : PW L d M K pc ls (.int x :: st) σ := by
  intro p e s m args below meth c H locs lsM hE hW hL
  exact lv_tableIn hE.1 hE.2.1 hd h1 h2 ho ht (kk p e s m args below meth c H locs lsM hE hW hL)
theorem pw_ret {v : Int32} {ty : FieldType} (hd : decode M.2.2.1 pc = .ok (.ireturn, 1)) (hr : M.2.2.2.2 = some ty) (hn : narrow ty (.int v) = .int v) (kk : K (some (.int v)) σ) : PW L d M K pc ls [.int v] σ := by
  intro p e s m args below meth c H locs lsM hE hW hL
  exact W.zret hE.1 hE.2.1 (hE.2.2.1.trans hr) hn (fun t ht _ => ⟨⟨some (.int v), σ, rfl, kk, by rw [ht]; exact hW.1⟩, hW.2.2.F ht⟩) hW.2.2.2.2 hd hE.2.2.2.2.2.2.2.2
theorem pw_vret (hd : decode M.2.2.1 pc = .ok (.return_, 1)) (hr : M.2.2.2.2 = none) (kk : K none σ) : PW L d M K pc ls [] σ := by
  intro p e s m args below meth c H locs lsM hE hW hL
  exact W.vret hE.1 hE.2.1 (hE.2.2.1.trans hr) (fun t ht _ => ⟨⟨none, σ, rfl, kk, by rw [ht]; exact hW.1⟩, hW.2.2.F ht⟩) hW.2.2.2.2 hd hE.2.2.2.2.2.2.2.2
end PWS
/-! calls -/
def pw_MB (M' : pw_Md) (n : Nat) : Prop := Cond.initialized M'.1.cls ∈ pw_ws ∧ Cond.code M'.1 M'.2.2.1 M'.2.2.2.1 M'.2.2.2.2 ∈ pw_ws ∧ (M'.1.cls ≠ "java/lang/invoke/MethodHandle" ∧ M'.1.cls ≠ "java/lang/invoke/VarHandle" ∧ (parseMethodDescriptor M'.1.desc).map (fun d => d.parameters.length) = some n) ∧ M'.2.2.2.1 ≤ 20
def pw_MV (own : String) (idx ci : Nat) (M' : pw_Md) (n : Nat) : Prop := (∃ (T : u_T) (N : Nat), pw_cl[ci]? = some (M'.1.cls, T, N)) ∧ Cond.methodLink own idx M'.1 ∈ pw_ws ∧ Cond.instanceMethod M'.1 ∈ pw_ws ∧ Cond.selects M'.1.cls M'.1 M'.1 ∈ pw_ws ∧ pw_MB M' n
def pw_MS (own : String) (idx : Nat) (M' : pw_Md) (n : Nat) : Prop := Cond.methodLink own idx M'.1 ∈ pw_ws ∧ Cond.static M'.1 ∈ pw_ws ∧ pw_MB M' n
def pw_MN (own : String) (idx : Nat) (M' : pw_Md) (n : Nat) : Prop := (own, idx, M'.1) ∈ pw_nest ∧ Cond.static M'.1 ∈ pw_ws ∧ pw_MB M' n
theorem pw_goods {M' : pw_Md} {n : Nat} (h : pw_MB M' n) : GoodIn pw_ws (.code M'.1 M'.2.2.1 M'.2.2.2.1 M'.2.2.2.2 :: pw_ws) := pw_good (fun w hw => (List.mem_cons.mp hw).elim (fun e => by rw [e]; exact h.2.1) id)
theorem pw_blind {L : pw_Lay} {as : List Value} {σ : pw_Mem} : FrameBlind (pw_P L as σ) := fun a U g mk q => by
  obtain ⟨q0, qP, qK, qD, qN⟩ := q
  exact ⟨q0, qP, va_K.moved (u := U) (U := U.calling g mk a) (Vm.Alike.refl U.vm) qK, qD, pw_N.same (u := U) (U := U.calling g mk a) rfl qN⟩
theorem pw_go {L : pw_Lay} {p : Program} {l : Launch} {e : Env} {R : Room} {s : State} {m : MethodId} {args : Array Value} {below : List Frame} {meth : Method} {c : Code} {H : Heap} {locs : List Loc} {Q : State → Prop} {pc : Nat} {lsM : Array Slot} {rest st0 : List Value} {a : Array Value} {H0 : Heap} {K' : pw_K} (hr : va_Run p l e R s m args below meth c H locs 0 0 0 0 (F0 m pc lsM st0) rest (pw_Q L K' a) (pw_A L)) (hS : va_S (pw_A L) H0 H locs)
    (kk : ∀ (r : Option Value) (σ' : pw_Mem) (H1 : Heap) (locs1 : List Loc), K' r σ' → va_P (pw_G L) pw_cl (pw_wl L σ') H1 → va_S (pw_A L) H0 H1 locs1 → W p l e R s m args below meth c H1 locs1 0 0 Q (F0 m (pc + 3) lsM ((r.map (pw_tr L)).toList ++ rest))) : W p l e R s m args below meth c H locs 0 0 Q (F0 m pc lsM st0) := by
  intro T hT X
  obtain ⟨v, st₀, t, T', L9, h0, X', hL, e1, e2, ⟨⟨r, σ', hv, hK, hP⟩, hz, hk⟩, st⟩ := hr T hT X
  cases hv
  rw [h0] at hz hk
  obtain ⟨t2, a1, b1⟩ := kk r σ' T'.heap (locs ++ L9) hK (by rw [e1]; exact hP)
    ⟨Nat.le_trans hS.1 (by rw [e1]; exact hz), fun q h1 h2 => by rw [e1, hk q (Nat.lt_of_lt_of_le h1 hS.1) h2]; exact hS.2.1 q h1 h2, fun q hq => by
      rcases List.mem_append.mp hq with h | h
      · exact hS.2.2 q h
      · exact hL q h⟩ T' rfl X'
  exact ⟨t2, st t2 a1, b1⟩
theorem pw_rets {L : pw_Lay} (r : Option Value) (st : List Value) : (r.map (pw_tr L)).toList ++ st.map (pw_tr L) = (r.toList ++ st).map (pw_tr L) := by cases r <;> simp
section PWC
variable {L : pw_Lay} {d : Nat} {M M' : pw_Md} {K : pw_K} {pc : Nat} {ls : List (Option Value)} {st stk : List Value} {σ : pw_Mem} {idx n : Nat}
theorem pw_rmOk {M' : pw_Md} {n : Nat} (h : pw_MB M' n) : (pw_rm d).frames + 1 ≤ (pw_rm (d + 1)).frames ∧ 8 + (M'.2.2.2.1 + 11) + (pw_rm d).locals ≤ (pw_rm (d + 1)).locals := by
  have := h.2.2.2
  refine ⟨Nat.le_refl _, ?_⟩
  show 8 + (M'.2.2.2.1 + 11) + 40 * d ≤ 40 * (d + 1)
  omega
theorem pw_callV (as : List Value) {ci k : Nat} {fs : List (Option Nat)} (hd : decode M.2.2.1 pc = .ok (.invokevirtual idx, 3)) (hm : pw_MV M.2.1 idx ci M' n) (hs : pw_shp[k]? = some (.inl (ci, fs))) (hst : stk = as.reverse ++ .ref k :: st) (hn : as.length = n) (hc : (st.map fun v => v.category).sum ≤ 8)
    (ct : CT L d M' (.ref k :: as) σ (fun r σ' => PW L (d + 1) M K (pc + 3) ls (r.toList ++ st) σ')) : PW L (d + 1) M K pc ls stk σ := by
  intro p e s m args below meth c H locs lsM hE hW hL
  obtain ⟨⟨T, N, hcl⟩, h1, h2, h3, h4⟩ := hm
  have hts := hE.2.2.2.2.1
  have hrun := va_runV (l := pw_l L) (R := pw_rm (d + 1)) (H := H) (locs := locs) (cells := 0) (slots := 0) (below := below) (meth := meth) (e := e) (g := F0 m pc lsM (stk.map (pw_tr L))) (b := pw_ad L k) (As := as.map (pw_tr L)) (rest := st.map (pw_tr L)) ⟨hE.1, hE.2.1, hE.2.2.2.1, hE.2.2.2.2.2.1, hts⟩ ct ⟨callB_of n hts (pw_goods h4) rfl rfl rfl (hts _ h4.1) (hts _ h1) h4.2.2.1 (pw_rmOk h4), hts _ h2, hts _ h3⟩
    ⟨pw_blind, va_recv hE.2.2.2.2.2.2.1 hW.1 hcl (pw_wl_at hs), fun U hU hWm => ⟨rfl, by rw [hU]; exact hW.1, va_K.moved hWm.alike hE.2.2.2.2.2.2.1, hW.2.1, pw_N.warm hWm hE.2.2.2.2.2.2.2.1⟩⟩ rfl (by rw [List.length_map]; exact hn) hL.1 (by show stk.map (pw_tr L) = _; rw [hst, List.map_append, List.map_reverse]; rfl) (lv_room (by rw [pw_cats]; exact hc)) hd ⟨Nat.zero_le _, Nat.zero_le _⟩
  refine pw_go hrun hW.2.2 (fun r σ' H1 locs1 hK hP hS => ?_)
  rw [pw_rets]
  exact hK p e s m args below meth c H1 locs1 lsM hE ⟨hP, pw_D_any hW.2.1, hS⟩ hL
theorem pw_callS (as : List Value) (hd : decode M.2.2.1 pc = .ok (.invokestatic idx, 3)) (hm : pw_MS M.2.1 idx M' n) (hst : stk = as.reverse ++ st) (hn : as.length = n) (hc : (st.map fun v => v.category).sum ≤ 8)
    (ct : CT L d M' as σ (fun r σ' => PW L (d + 1) M K (pc + 3) ls (r.toList ++ st) σ')) : PW L (d + 1) M K pc ls stk σ := by
  intro p e s m args below meth c H locs lsM hE hW hL
  obtain ⟨h1, h2, h4⟩ := hm
  have hts := hE.2.2.2.2.1
  have hrun := va_runS (l := pw_l L) (R := pw_rm (d + 1)) (H := H) (locs := locs) (cells := 0) (slots := 0) (below := below) (meth := meth) (e := e) (g := F0 m pc lsM (stk.map (pw_tr L))) (As := as.map (pw_tr L)) (rest := st.map (pw_tr L)) ⟨hE.1, hE.2.1, hE.2.2.2.1, hE.2.2.2.2.2.1, hts⟩ ct ⟨callB_of n hts (pw_goods h4) rfl rfl rfl (hts _ h4.1) (hts _ h1) h4.2.2.1 (pw_rmOk h4), hts _ h2⟩
    ⟨pw_blind, fun U hU hWm => ⟨rfl, by rw [hU]; exact hW.1, va_K.moved hWm.alike hE.2.2.2.2.2.2.1, hW.2.1, pw_N.warm hWm hE.2.2.2.2.2.2.2.1⟩⟩ rfl (by rw [List.length_map]; exact hn) hL.1 (by show stk.map (pw_tr L) = _; rw [hst, List.map_append, List.map_reverse]) (lv_room (by rw [pw_cats]; exact hc)) hd ⟨Nat.zero_le _, Nat.zero_le _⟩
  refine pw_go hrun hW.2.2 (fun r σ' H1 locs1 hK hP hS => ?_)
  rw [pw_rets]
  exact hK p e s m args below meth c H1 locs1 lsM hE ⟨hP, pw_D_any hW.2.1, hS⟩ hL
theorem pw_callN (as : List Value) (hd : decode M.2.2.1 pc = .ok (.invokestatic idx, 3)) (hm : pw_MN M.2.1 idx M' n) (hst : stk = as.reverse ++ st) (hn : as.length = n) (hc : (st.map fun v => v.category).sum ≤ 8)
    (ct : CT L d M' as σ (fun r σ' => PW L (d + 1) M K (pc + 3) ls (r.toList ++ st) σ')) : PW L (d + 1) M K pc ls stk σ := by
  intro p e s m args below meth c H locs lsM hE hW hL
  obtain ⟨h1, h2, h4⟩ := hm
  have hts := hE.2.2.2.2.1
  have hrun := va_runSN (l := pw_l L) (R := pw_rm (d + 1)) (H := H) (locs := locs) (cells := 0) (slots := 0) (below := below) (meth := meth) (e := e) (g := F0 m pc lsM (stk.map (pw_tr L))) (As := as.map (pw_tr L)) (rest := st.map (pw_tr L)) ⟨hE.1, hE.2.1, hE.2.2.2.1, hE.2.2.2.2.2.1, hts⟩ ct ⟨va_cnB (host := "StackDepths") n hts (pw_goods h4) rfl rfl rfl (hE.2.2.2.2.2.2.2.1 _ h1) (hts _ h4.1) h4.2.2.1 (pw_rmOk h4), hts _ h2, trivial⟩
    ⟨pw_blind, fun U hU hWm => ⟨rfl, by rw [hU]; exact hW.1, va_K.moved hWm.alike hE.2.2.2.2.2.2.1, hW.2.1, pw_N.warm hWm hE.2.2.2.2.2.2.2.1⟩⟩ rfl (by rw [List.length_map]; exact hn) hL.1 (by show stk.map (pw_tr L) = _; rw [hst, List.map_append, List.map_reverse]) (lv_room (by rw [pw_cats]; exact hc)) hd ⟨Nat.zero_le _, Nat.zero_le _⟩
  refine pw_go hrun hW.2.2 (fun r σ' H1 locs1 hK hP hS => ?_)
  rw [pw_rets]
  exact hK p e s m args below meth c H1 locs1 lsM hE ⟨hP, pw_D_any hW.2.1, hS⟩ hL
end PWC
end
section
theorem pw_uX0 : ∀ w ∈ u_ws RX0 TX0 2, w ∈ pw_ws := fun w hw => pw_in ((by decide +kernel : ∀ w ∈ u_ws RX0 TX0 2, w ∈ lw_tbl) w hw) ((by decide +kernel : ∀ w ∈ u_ws RX0 TX0 2, goodWord w = true) w hw)
theorem pw_uX1 : ∀ w ∈ u_ws RX1 TX1 4, w ∈ pw_ws := fun w hw => pw_in ((by decide +kernel : ∀ w ∈ u_ws RX1 TX1 4, w ∈ lw_tbl) w hw) ((by decide +kernel : ∀ w ∈ u_ws RX1 TX1 4, goodWord w = true) w hw)
theorem pw_uX2 : ∀ w ∈ u_ws RX2 TX2 11, w ∈ pw_ws := fun w hw => pw_in ((by decide +kernel : ∀ w ∈ u_ws RX2 TX2 11, w ∈ lw_tbl) w hw) ((by decide +kernel : ∀ w ∈ u_ws RX2 TX2 11, goodWord w = true) w hw)
theorem pw_uX3 : ∀ w ∈ u_ws RX3 TX3 4, w ∈ pw_ws := fun w hw => pw_in ((by decide +kernel : ∀ w ∈ u_ws RX3 TX3 4, w ∈ lw_tbl) w hw) ((by decide +kernel : ∀ w ∈ u_ws RX3 TX3 4, goodWord w = true) w hw)
theorem pw_uX4 : ∀ w ∈ u_ws RX4 TX4 3, w ∈ pw_ws := fun w hw => pw_in ((by decide +kernel : ∀ w ∈ u_ws RX4 TX4 3, w ∈ lw_tbl) w hw) ((by decide +kernel : ∀ w ∈ u_ws RX4 TX4 3, goodWord w = true) w hw)
theorem pw_uX5 : ∀ w ∈ u_ws RX5 TX5 3, w ∈ pw_ws := fun w hw => pw_in ((by decide +kernel : ∀ w ∈ u_ws RX5 TX5 3, w ∈ lw_tbl) w hw) ((by decide +kernel : ∀ w ∈ u_ws RX5 TX5 3, goodWord w = true) w hw)
theorem pw_uX6 : ∀ w ∈ u_ws RX6 TX6 6, w ∈ pw_ws := fun w hw => pw_in ((by decide +kernel : ∀ w ∈ u_ws RX6 TX6 6, w ∈ lw_tbl) w hw) ((by decide +kernel : ∀ w ∈ u_ws RX6 TX6 6, goodWord w = true) w hw)
theorem pw_uX7 : ∀ w ∈ u_ws RX7 TX7 3, w ∈ pw_ws := fun w hw => pw_in ((by decide +kernel : ∀ w ∈ u_ws RX7 TX7 3, w ∈ lw_tbl) w hw) ((by decide +kernel : ∀ w ∈ u_ws RX7 TX7 3, goodWord w = true) w hw)
theorem pw_uX8 : ∀ w ∈ u_ws RX8 TX8 5, w ∈ pw_ws := fun w hw => pw_in ((by decide +kernel : ∀ w ∈ u_ws RX8 TX8 5, w ∈ lw_tbl) w hw) ((by decide +kernel : ∀ w ∈ u_ws RX8 TX8 5, goodWord w = true) w hw)
theorem pw_uX9 : ∀ w ∈ u_ws RX9 TX9 8, w ∈ pw_ws := fun w hw => pw_in ((by decide +kernel : ∀ w ∈ u_ws RX9 TX9 8, w ∈ lw_tbl) w hw) ((by decide +kernel : ∀ w ∈ u_ws RX9 TX9 8, goodWord w = true) w hw)
theorem pw_uX10 : ∀ w ∈ u_ws RX10 TX10 10, w ∈ pw_ws := fun w hw => pw_in ((by decide +kernel : ∀ w ∈ u_ws RX10 TX10 10, w ∈ lw_tbl) w hw) ((by decide +kernel : ∀ w ∈ u_ws RX10 TX10 10, goodWord w = true) w hw)
theorem pw_uX11 : ∀ w ∈ u_ws RX11 TX11 39, w ∈ pw_ws := fun w hw => pw_in ((by decide +kernel : ∀ w ∈ u_ws RX11 TX11 39, w ∈ lw_tbl) w hw) ((by decide +kernel : ∀ w ∈ u_ws RX11 TX11 39, goodWord w = true) w hw)
abbrev m_X10_init : pw_Md := (yX10_init, RX10, cX10_init, 2, none)
theorem mb_X10_init : pw_MB m_X10_init 0 := ⟨pw_tab 1 (by decide +kernel) rfl, pw_tab 19 (by decide +kernel) rfl, by decide +kernel, by decide⟩
abbrev m_X5_init : pw_Md := (yX5_init, RX5, cX5_init, 1, none)
theorem mb_X5_init : pw_MB m_X5_init 0 := ⟨pw_tab 2 (by decide +kernel) rfl, pw_tab 27 (by decide +kernel) rfl, by decide +kernel, by decide⟩
abbrev m_X4_init : pw_Md := (yX4_init, RX4, cX4_init, 1, none)
theorem mb_X4_init : pw_MB m_X4_init 0 := ⟨pw_tab 3 (by decide +kernel) rfl, pw_tab 51 (by decide +kernel) rfl, by decide +kernel, by decide⟩
abbrev m_X0_init : pw_Md := (yX0_init, RX0, cX0_init, 1, none)
theorem mb_X0_init : pw_MB m_X0_init 0 := ⟨pw_tab 4 (by decide +kernel) rfl, pw_tab 71 (by decide +kernel) rfl, by decide +kernel, by decide⟩
abbrev m_X2_init : pw_Md := (yX2_init, RX2, cX2_init, 4, none)
theorem mb_X2_init : pw_MB m_X2_init 3 := ⟨pw_tab 5 (by decide +kernel) rfl, pw_tab 88 (by decide +kernel) rfl, by decide +kernel, by decide⟩
abbrev m_X1_init : pw_Md := (yX1_init, RX1, cX1_init, 3, none)
theorem mb_X1_init : pw_MB m_X1_init 2 := ⟨pw_tab 6 (by decide +kernel) rfl, pw_tab 139 (by decide +kernel) rfl, by decide +kernel, by decide⟩
abbrev m_X3_init : pw_Md := (yX3_init, RX3, cX3_init, 1, none)
theorem mb_X3_init : pw_MB m_X3_init 0 := ⟨pw_tab 7 (by decide +kernel) rfl, pw_tab 159 (by decide +kernel) rfl, by decide +kernel, by decide⟩
abbrev m_X8_init : pw_Md := (yX8_init, RX8, cX8_init, 1, none)
theorem mb_X8_init : pw_MB m_X8_init 0 := ⟨pw_tab 8 (by decide +kernel) rfl, pw_tab 179 (by decide +kernel) rfl, by decide +kernel, by decide⟩
abbrev m_X6_init : pw_Md := (yX6_init, RX6, cX6_init, 1, none)
theorem mb_X6_init : pw_MB m_X6_init 0 := ⟨pw_tab 9 (by decide +kernel) rfl, pw_tab 208 (by decide +kernel) rfl, by decide +kernel, by decide⟩
abbrev m_X9_init : pw_Md := (yX9_init, RX9, cX9_init, 1, none)
theorem mb_X9_init : pw_MB m_X9_init 0 := ⟨pw_tab 10 (by decide +kernel) rfl, pw_tab 235 (by decide +kernel) rfl, by decide +kernel, by decide⟩
abbrev m_X7_init : pw_Md := (yX7_init, RX7, cX7_init, 1, none)
theorem mb_X7_init : pw_MB m_X7_init 0 := ⟨pw_tab 11 (by decide +kernel) rfl, pw_tab 273 (by decide +kernel) rfl, by decide +kernel, by decide⟩
abbrev m_X10_routine : pw_Md := (yX10_routine, RX10, cX10_routine, 2, some .int)
theorem mb_X10_routine : pw_MB m_X10_routine 1 := ⟨pw_tab 1 (by decide +kernel) rfl, pw_tab 322 (by decide +kernel) rfl, by decide +kernel, by decide⟩
abbrev m_X10_within : pw_Md := (yX10_within, RX10, cX10_within, 3, some .boolean)
theorem mb_X10_within : pw_MB m_X10_within 3 := ⟨pw_tab 1 (by decide +kernel) rfl, pw_tab 325 (by decide +kernel) rfl, by decide +kernel, by decide⟩
abbrev m_X2_outdate : pw_Md := (yX2_outdate, RX2, cX2_outdate, 1, none)
theorem mb_X2_outdate : pw_MB m_X2_outdate 0 := ⟨pw_tab 5 (by decide +kernel) rfl, pw_tab 329 (by decide +kernel) rfl, by decide +kernel, by decide⟩
abbrev m_X5_add : pw_Md := (yX5_add, RX5, cX5_add, 2, some .int)
theorem mb_X5_add : pw_MB m_X5_add 1 := ⟨pw_tab 2 (by decide +kernel) rfl, pw_tab 333 (by decide +kernel) rfl, by decide +kernel, by decide⟩
abbrev m_X10_frame : pw_Md := (yX10_frame, RX10, cX10_frame, 4, some .int)
theorem mb_X10_frame : pw_MB m_X10_frame 2 := ⟨pw_tab 1 (by decide +kernel) rfl, pw_tab 337 (by decide +kernel) rfl, by decide +kernel, by decide⟩
abbrev m_X10_isRoutine : pw_Md := (yX10_isRoutine, RX10, cX10_isRoutine, 2, some .boolean)
theorem mb_X10_isRoutine : pw_MB m_X10_isRoutine 1 := ⟨pw_tab 1 (by decide +kernel) rfl, pw_tab 341 (by decide +kernel) rfl, by decide +kernel, by decide⟩
abbrev m_X10_turns : pw_Md := (yX10_turns, RX10, cX10_turns, 4, some .int)
theorem mb_X10_turns : pw_MB m_X10_turns 2 := ⟨pw_tab 1 (by decide +kernel) rfl, pw_tab 345 (by decide +kernel) rfl, by decide +kernel, by decide⟩
abbrev m_X10_call : pw_Md := (yX10_call, RX10, cX10_call, 7, some .int)
theorem mb_X10_call : pw_MB m_X10_call 4 := ⟨pw_tab 1 (by decide +kernel) rfl, pw_tab 349 (by decide +kernel) rfl, by decide +kernel, by decide⟩
abbrev m_X10_kindOf : pw_Md := (yX10_kindOf, RX10, cX10_kindOf, 2, some .int)
theorem mb_X10_kindOf : pw_MB m_X10_kindOf 2 := ⟨pw_tab 1 (by decide +kernel) rfl, pw_tab 352 (by decide +kernel) rfl, by decide +kernel, by decide⟩
abbrev m_X10_refusalOfCall : pw_Md := (yX10_refusalOfCall, RX10, cX10_refusalOfCall, 4, some .int)
theorem mb_X10_refusalOfCall : pw_MB m_X10_refusalOfCall 3 := ⟨pw_tab 1 (by decide +kernel) rfl, pw_tab 356 (by decide +kernel) rfl, by decide +kernel, by decide⟩
abbrev m_X10_canBeCall : pw_Md := (yX10_canBeCall, RX10, cX10_canBeCall, 4, some .boolean)
theorem mb_X10_canBeCall : pw_MB m_X10_canBeCall 3 := ⟨pw_tab 1 (by decide +kernel) rfl, pw_tab 360 (by decide +kernel) rfl, by decide +kernel, by decide⟩
abbrev m_X10_isPointer : pw_Md := (yX10_isPointer, RX10, cX10_isPointer, 1, some .boolean)
theorem mb_X10_isPointer : pw_MB m_X10_isPointer 1 := ⟨pw_tab 1 (by decide +kernel) rfl, pw_tab 363 (by decide +kernel) rfl, by decide +kernel, by decide⟩
abbrev m_X0_has : pw_Md := (yX0_has, RX0, cX0_has, 4, some .boolean)
theorem mb_X0_has : pw_MB m_X0_has 3 := ⟨pw_tab 4 (by decide +kernel) rfl, pw_tab 367 (by decide +kernel) rfl, by decide +kernel, by decide⟩
abbrev m_X10_holds : pw_Md := (yX10_holds, RX10, cX10_holds, 2, some .boolean)
theorem mb_X10_holds : pw_MB m_X10_holds 2 := ⟨pw_tab 1 (by decide +kernel) rfl, pw_tab 370 (by decide +kernel) rfl, by decide +kernel, by decide⟩
abbrev m_X0_add : pw_Md := (yX0_add, RX0, cX0_add, 4, none)
theorem mb_X0_add : pw_MB m_X0_add 3 := ⟨pw_tab 4 (by decide +kernel) rfl, pw_tab 374 (by decide +kernel) rfl, by decide +kernel, by decide⟩
abbrev m_X10_cut : pw_Md := (yX10_cut, RX10, cX10_cut, 6, some .int)
theorem mb_X10_cut : pw_MB m_X10_cut 4 := ⟨pw_tab 1 (by decide +kernel) rfl, pw_tab 378 (by decide +kernel) rfl, by decide +kernel, by decide⟩
abbrev m_X0_remove : pw_Md := (yX0_remove, RX0, cX0_remove, 4, none)
theorem mb_X0_remove : pw_MB m_X0_remove 3 := ⟨pw_tab 4 (by decide +kernel) rfl, pw_tab 382 (by decide +kernel) rfl, by decide +kernel, by decide⟩
abbrev m_X10_take : pw_Md := (yX10_take, RX10, cX10_take, 3, some .int)
theorem mb_X10_take : pw_MB m_X10_take 2 := ⟨pw_tab 1 (by decide +kernel) rfl, pw_tab 386 (by decide +kernel) rfl, by decide +kernel, by decide⟩
abbrev m_X4_addTaken : pw_Md := (yX4_addTaken, RX4, cX4_addTaken, 3, none)
theorem mb_X4_addTaken : pw_MB m_X4_addTaken 2 := ⟨pw_tab 3 (by decide +kernel) rfl, pw_tab 391 (by decide +kernel) rfl, by decide +kernel, by decide⟩
abbrev m_X4_spreadGoals : pw_Md := (yX4_spreadGoals, RX4, cX4_spreadGoals, 3, none)
theorem mb_X4_spreadGoals : pw_MB m_X4_spreadGoals 0 := ⟨pw_tab 3 (by decide +kernel) rfl, pw_tab 395 (by decide +kernel) rfl, by decide +kernel, by decide⟩
abbrev m_X4_unionOf : pw_Md := (yX4_unionOf, RX4, cX4_unionOf, 4, some .int)
theorem mb_X4_unionOf : pw_MB m_X4_unionOf 2 := ⟨pw_tab 3 (by decide +kernel) rfl, pw_tab 398 (by decide +kernel) rfl, by decide +kernel, by decide⟩
abbrev m_X10_flow : pw_Md := (yX10_flow, RX10, cX10_flow, 3, some .int)
theorem mb_X10_flow : pw_MB m_X10_flow 2 := ⟨pw_tab 1 (by decide +kernel) rfl, pw_tab 403 (by decide +kernel) rfl, by decide +kernel, by decide⟩
abbrev m_X4_addSource : pw_Md := (yX4_addSource, RX4, cX4_addSource, 3, none)
theorem mb_X4_addSource : pw_MB m_X4_addSource 2 := ⟨pw_tab 3 (by decide +kernel) rfl, pw_tab 407 (by decide +kernel) rfl, by decide +kernel, by decide⟩
abbrev m_X10_goals : pw_Md := (yX10_goals, RX10, cX10_goals, 2, some .int)
theorem mb_X10_goals : pw_MB m_X10_goals 1 := ⟨pw_tab 1 (by decide +kernel) rfl, pw_tab 411 (by decide +kernel) rfl, by decide +kernel, by decide⟩
abbrev m_X10_about : pw_Md := (yX10_about, RX10, cX10_about, 3, some .int)
theorem mb_X10_about : pw_MB m_X10_about 2 := ⟨pw_tab 1 (by decide +kernel) rfl, pw_tab 415 (by decide +kernel) rfl, by decide +kernel, by decide⟩
abbrev m_X2_refresh : pw_Md := (yX2_refresh, RX2, cX2_refresh, 1, none)
theorem mb_X2_refresh : pw_MB m_X2_refresh 0 := ⟨pw_tab 5 (by decide +kernel) rfl, pw_tab 419 (by decide +kernel) rfl, by decide +kernel, by decide⟩
abbrev m_X2_drawCalls : pw_Md := (yX2_drawCalls, RX2, cX2_drawCalls, 4, none)
theorem mb_X2_drawCalls : pw_MB m_X2_drawCalls 0 := ⟨pw_tab 5 (by decide +kernel) rfl, pw_tab 423 (by decide +kernel) rfl, by decide +kernel, by decide⟩
abbrev m_X2_closeReach : pw_Md := (yX2_closeReach, RX2, cX2_closeReach, 3, none)
theorem mb_X2_closeReach : pw_MB m_X2_closeReach 0 := ⟨pw_tab 5 (by decide +kernel) rfl, pw_tab 428 (by decide +kernel) rfl, by decide +kernel, by decide⟩
abbrev m_X2_gatherTogether : pw_Md := (yX2_gatherTogether, RX2, cX2_gatherTogether, 3, none)
theorem mb_X2_gatherTogether : pw_MB m_X2_gatherTogether 0 := ⟨pw_tab 5 (by decide +kernel) rfl, pw_tab 433 (by decide +kernel) rfl, by decide +kernel, by decide⟩
abbrev m_X2_markRings : pw_Md := (yX2_markRings, RX2, cX2_markRings, 2, none)
theorem mb_X2_markRings : pw_MB m_X2_markRings 0 := ⟨pw_tab 5 (by decide +kernel) rfl, pw_tab 437 (by decide +kernel) rfl, by decide +kernel, by decide⟩
abbrev m_X2_orderLeaders : pw_Md := (yX2_orderLeaders, RX2, cX2_orderLeaders, 3, none)
theorem mb_X2_orderLeaders : pw_MB m_X2_orderLeaders 0 := ⟨pw_tab 5 (by decide +kernel) rfl, pw_tab 441 (by decide +kernel) rfl, by decide +kernel, by decide⟩
abbrev m_X10_leastOf : pw_Md := (yX10_leastOf, RX10, cX10_leastOf, 2, some .int)
theorem mb_X10_leastOf : pw_MB m_X10_leastOf 1 := ⟨pw_tab 1 (by decide +kernel) rfl, pw_tab 444 (by decide +kernel) rfl, by decide +kernel, by decide⟩
abbrev m_X2_selfAndReached : pw_Md := (yX2_selfAndReached, RX2, cX2_selfAndReached, 2, some .int)
theorem mb_X2_selfAndReached : pw_MB m_X2_selfAndReached 1 := ⟨pw_tab 5 (by decide +kernel) rfl, pw_tab 448 (by decide +kernel) rfl, by decide +kernel, by decide⟩
abbrev m_J6_bitCount_0f7a4 : pw_Md := (yJ6_bitCount_0f7a4, RJ6, cJ6_bitCount_0f7a4, 1, some .int)
theorem mb_J6_bitCount_0f7a4 : pw_MB m_J6_bitCount_0f7a4 1 := ⟨pw_tab 13 (by decide +kernel) rfl, pw_tab 451 (by decide +kernel) rfl, by decide +kernel, by decide⟩
abbrev m_X2_howManyReach : pw_Md := (yX2_howManyReach, RX2, cX2_howManyReach, 4, some .int)
theorem mb_X2_howManyReach : pw_MB m_X2_howManyReach 1 := ⟨pw_tab 5 (by decide +kernel) rfl, pw_tab 460 (by decide +kernel) rfl, by decide +kernel, by decide⟩
abbrev m_X10_depth : pw_Md := (yX10_depth, RX10, cX10_depth, 2, some .int)
theorem mb_X10_depth : pw_MB m_X10_depth 1 := ⟨pw_tab 1 (by decide +kernel) rfl, pw_tab 464 (by decide +kernel) rfl, by decide +kernel, by decide⟩
abbrev m_X1_measure : pw_Md := (yX1_measure, RX1, cX1_measure, 5, none)
theorem mb_X1_measure : pw_MB m_X1_measure 1 := ⟨pw_tab 6 (by decide +kernel) rfl, pw_tab 468 (by decide +kernel) rfl, by decide +kernel, by decide⟩
abbrev m_X1_depthOfRing : pw_Md := (yX1_depthOfRing, RX1, cX1_depthOfRing, 5, some .int)
theorem mb_X1_depthOfRing : pw_MB m_X1_depthOfRing 1 := ⟨pw_tab 6 (by decide +kernel) rfl, pw_tab 474 (by decide +kernel) rfl, by decide +kernel, by decide⟩
abbrev m_X1_frameOf : pw_Md := (yX1_frameOf, RX1, cX1_frameOf, 2, some .int)
theorem mb_X1_frameOf : pw_MB m_X1_frameOf 1 := ⟨pw_tab 6 (by decide +kernel) rfl, pw_tab 478 (by decide +kernel) rfl, by decide +kernel, by decide⟩
abbrev m_X1_greatestOf : pw_Md := (yX1_greatestOf, RX1, cX1_greatestOf, 4, some .int)
theorem mb_X1_greatestOf : pw_MB m_X1_greatestOf 1 := ⟨pw_tab 6 (by decide +kernel) rfl, pw_tab 482 (by decide +kernel) rfl, by decide +kernel, by decide⟩
abbrev m_X10_greater : pw_Md := (yX10_greater, RX10, cX10_greater, 2, some .int)
theorem mb_X10_greater : pw_MB m_X10_greater 2 := ⟨pw_tab 1 (by decide +kernel) rfl, pw_tab 485 (by decide +kernel) rfl, by decide +kernel, by decide⟩
abbrev m_X10_plus : pw_Md := (yX10_plus, RX10, cX10_plus, 2, some .int)
theorem mb_X10_plus : pw_MB m_X10_plus 2 := ⟨pw_tab 1 (by decide +kernel) rfl, pw_tab 488 (by decide +kernel) rfl, by decide +kernel, by decide⟩
abbrev m_X1_depthOfTails : pw_Md := (yX1_depthOfTails, RX1, cX1_depthOfTails, 4, some .int)
theorem mb_X1_depthOfTails : pw_MB m_X1_depthOfTails 1 := ⟨pw_tab 6 (by decide +kernel) rfl, pw_tab 492 (by decide +kernel) rfl, by decide +kernel, by decide⟩
abbrev m_X1_depthOfItself : pw_Md := (yX1_depthOfItself, RX1, cX1_depthOfItself, 3, some .int)
theorem mb_X1_depthOfItself : pw_MB m_X1_depthOfItself 1 := ⟨pw_tab 6 (by decide +kernel) rfl, pw_tab 496 (by decide +kernel) rfl, by decide +kernel, by decide⟩
abbrev m_X1_spread : pw_Md := (yX1_spread, RX1, cX1_spread, 4, none)
theorem mb_X1_spread : pw_MB m_X1_spread 2 := ⟨pw_tab 6 (by decide +kernel) rfl, pw_tab 500 (by decide +kernel) rfl, by decide +kernel, by decide⟩
abbrev m_X10_way : pw_Md := (yX10_way, RX10, cX10_way, 6, some .int)
theorem mb_X10_way : pw_MB m_X10_way 2 := ⟨pw_tab 1 (by decide +kernel) rfl, pw_tab 504 (by decide +kernel) rfl, by decide +kernel, by decide⟩
abbrev m_J9_min_7cf53 : pw_Md := (yJ9_min_7cf53, RJ9, cJ9_min_7cf53, 2, some .int)
theorem mb_J9_min_7cf53 : pw_MB m_J9_min_7cf53 2 := ⟨pw_tab 14 (by decide +kernel) rfl, pw_tab 508 (by decide +kernel) rfl, by decide +kernel, by decide⟩
abbrev m_X1_nextOnWay : pw_Md := (yX1_nextOnWay, RX1, cX1_nextOnWay, 4, some .int)
theorem mb_X1_nextOnWay : pw_MB m_X1_nextOnWay 1 := ⟨pw_tab 6 (by decide +kernel) rfl, pw_tab 512 (by decide +kernel) rfl, by decide +kernel, by decide⟩
abbrev m_X1_leastThatTells : pw_Md := (yX1_leastThatTells, RX1, cX1_leastThatTells, 4, some .int)
theorem mb_X1_leastThatTells : pw_MB m_X1_leastThatTells 2 := ⟨pw_tab 6 (by decide +kernel) rfl, pw_tab 516 (by decide +kernel) rfl, by decide +kernel, by decide⟩
abbrev m_X1_leastThatHas : pw_Md := (yX1_leastThatHas, RX1, cX1_leastThatHas, 4, some .int)
theorem mb_X1_leastThatHas : pw_MB m_X1_leastThatHas 2 := ⟨pw_tab 6 (by decide +kernel) rfl, pw_tab 520 (by decide +kernel) rfl, by decide +kernel, by decide⟩
abbrev m_X10_endless : pw_Md := (yX10_endless, RX10, cX10_endless, 2, some .int)
theorem mb_X10_endless : pw_MB m_X10_endless 1 := ⟨pw_tab 1 (by decide +kernel) rfl, pw_tab 524 (by decide +kernel) rfl, by decide +kernel, by decide⟩
abbrev m_X5_withoutTurns : pw_Md := (yX5_withoutTurns, RX5, cX5_withoutTurns, 3, some .int)
theorem mb_X5_withoutTurns : pw_MB m_X5_withoutTurns 0 := ⟨pw_tab 2 (by decide +kernel) rfl, pw_tab 528 (by decide +kernel) rfl, by decide +kernel, by decide⟩
abbrev m_X10_interrupt : pw_Md := (yX10_interrupt, RX10, cX10_interrupt, 4, some .int)
theorem mb_X10_interrupt : pw_MB m_X10_interrupt 3 := ⟨pw_tab 1 (by decide +kernel) rfl, pw_tab 532 (by decide +kernel) rfl, by decide +kernel, by decide⟩
abbrev m_X3_add : pw_Md := (yX3_add, RX3, cX3_add, 4, some .int)
theorem mb_X3_add : pw_MB m_X3_add 3 := ⟨pw_tab 7 (by decide +kernel) rfl, pw_tab 536 (by decide +kernel) rfl, by decide +kernel, by decide⟩
abbrev m_X10_task : pw_Md := (yX10_task, RX10, cX10_task, 4, some .int)
theorem mb_X10_task : pw_MB m_X10_task 3 := ⟨pw_tab 1 (by decide +kernel) rfl, pw_tab 540 (by decide +kernel) rfl, by decide +kernel, by decide⟩
abbrev m_X8_add : pw_Md := (yX8_add, RX8, cX8_add, 4, some .int)
theorem mb_X8_add : pw_MB m_X8_add 3 := ⟨pw_tab 8 (by decide +kernel) rfl, pw_tab 544 (by decide +kernel) rfl, by decide +kernel, by decide⟩
abbrev m_X10_total : pw_Md := (yX10_total, RX10, cX10_total, 3, some .int)
theorem mb_X10_total : pw_MB m_X10_total 2 := ⟨pw_tab 1 (by decide +kernel) rfl, pw_tab 548 (by decide +kernel) rfl, by decide +kernel, by decide⟩
abbrev m_X10_isTask : pw_Md := (yX10_isTask, RX10, cX10_isTask, 2, some .boolean)
theorem mb_X10_isTask : pw_MB m_X10_isTask 1 := ⟨pw_tab 1 (by decide +kernel) rfl, pw_tab 552 (by decide +kernel) rfl, by decide +kernel, by decide⟩
abbrev m_X3_topAbove : pw_Md := (yX3_topAbove, RX3, cX3_topAbove, 5, some .int)
theorem mb_X3_topAbove : pw_MB m_X3_topAbove 2 := ⟨pw_tab 7 (by decide +kernel) rfl, pw_tab 556 (by decide +kernel) rfl, by decide +kernel, by decide⟩
abbrev m_X3_greatestAt : pw_Md := (yX3_greatestAt, RX3, cX3_greatestAt, 5, some .int)
theorem mb_X3_greatestAt : pw_MB m_X3_greatestAt 2 := ⟨pw_tab 7 (by decide +kernel) rfl, pw_tab 560 (by decide +kernel) rfl, by decide +kernel, by decide⟩
abbrev m_X10_totalAsMeasured : pw_Md := (yX10_totalAsMeasured, RX10, cX10_totalAsMeasured, 2, some .int)
theorem mb_X10_totalAsMeasured : pw_MB m_X10_totalAsMeasured 1 := ⟨pw_tab 1 (by decide +kernel) rfl, pw_tab 566 (by decide +kernel) rfl, by decide +kernel, by decide⟩
abbrev m_X10_roomAsMeasured : pw_Md := (yX10_roomAsMeasured, RX10, cX10_roomAsMeasured, 2, some .int)
theorem mb_X10_roomAsMeasured : pw_MB m_X10_roomAsMeasured 1 := ⟨pw_tab 1 (by decide +kernel) rfl, pw_tab 571 (by decide +kernel) rfl, by decide +kernel, by decide⟩
abbrev m_X10_apart : pw_Md := (yX10_apart, RX10, cX10_apart, 5, some .int)
theorem mb_X10_apart : pw_MB m_X10_apart 3 := ⟨pw_tab 1 (by decide +kernel) rfl, pw_tab 575 (by decide +kernel) rfl, by decide +kernel, by decide⟩
abbrev m_X8_setApart : pw_Md := (yX8_setApart, RX8, cX8_setApart, 4, none)
theorem mb_X8_setApart : pw_MB m_X8_setApart 3 := ⟨pw_tab 8 (by decide +kernel) rfl, pw_tab 579 (by decide +kernel) rfl, by decide +kernel, by decide⟩
abbrev m_X10_shared : pw_Md := (yX10_shared, RX10, cX10_shared, 1, some .int)
theorem mb_X10_shared : pw_MB m_X10_shared 0 := ⟨pw_tab 1 (by decide +kernel) rfl, pw_tab 583 (by decide +kernel) rfl, by decide +kernel, by decide⟩
abbrev m_X10_shareRooms : pw_Md := (yX10_shareRooms, RX10, cX10_shareRooms, 3, some .int)
theorem mb_X10_shareRooms : pw_MB m_X10_shareRooms 0 := ⟨pw_tab 1 (by decide +kernel) rfl, pw_tab 587 (by decide +kernel) rfl, by decide +kernel, by decide⟩
abbrev m_X6_divide : pw_Md := (yX6_divide, RX6, cX6_divide, 2, some .int)
theorem mb_X6_divide : pw_MB m_X6_divide 1 := ⟨pw_tab 9 (by decide +kernel) rfl, pw_tab 591 (by decide +kernel) rfl, by decide +kernel, by decide⟩
abbrev m_X6_place : pw_Md := (yX6_place, RX6, cX6_place, 7, none)
theorem mb_X6_place : pw_MB m_X6_place 4 := ⟨pw_tab 9 (by decide +kernel) rfl, pw_tab 596 (by decide +kernel) rfl, by decide +kernel, by decide⟩
abbrev m_X6_keep : pw_Md := (yX6_keep, RX6, cX6_keep, 3, none)
theorem mb_X6_keep : pw_MB m_X6_keep 1 := ⟨pw_tab 9 (by decide +kernel) rfl, pw_tab 600 (by decide +kernel) rfl, by decide +kernel, by decide⟩
abbrev m_J9_max_7cf53 : pw_Md := (yJ9_max_7cf53, RJ9, cJ9_max_7cf53, 2, some .int)
theorem mb_J9_max_7cf53 : pw_MB m_J9_max_7cf53 2 := ⟨pw_tab 14 (by decide +kernel) rfl, pw_tab 603 (by decide +kernel) rfl, by decide +kernel, by decide⟩
abbrev m_X10_group : pw_Md := (yX10_group, RX10, cX10_group, 2, some .int)
theorem mb_X10_group : pw_MB m_X10_group 1 := ⟨pw_tab 1 (by decide +kernel) rfl, pw_tab 607 (by decide +kernel) rfl, by decide +kernel, by decide⟩
abbrev m_X10_saves : pw_Md := (yX10_saves, RX10, cX10_saves, 4, some .int)
theorem mb_X10_saves : pw_MB m_X10_saves 2 := ⟨pw_tab 1 (by decide +kernel) rfl, pw_tab 611 (by decide +kernel) rfl, by decide +kernel, by decide⟩
abbrev m_X10_totalWithout : pw_Md := (yX10_totalWithout, RX10, cX10_totalWithout, 3, some .int)
theorem mb_X10_totalWithout : pw_MB m_X10_totalWithout 2 := ⟨pw_tab 1 (by decide +kernel) rfl, pw_tab 615 (by decide +kernel) rfl, by decide +kernel, by decide⟩
abbrev m_X10_best : pw_Md := (yX10_best, RX10, cX10_best, 7, some .int)
theorem mb_X10_best : pw_MB m_X10_best 1 := ⟨pw_tab 1 (by decide +kernel) rfl, pw_tab 619 (by decide +kernel) rfl, by decide +kernel, by decide⟩
abbrev m_X10_run : pw_Md := (yX10_run, RX10, cX10_run, 2, some .int)
theorem mb_X10_run : pw_MB m_X10_run 1 := ⟨pw_tab 1 (by decide +kernel) rfl, pw_tab 623 (by decide +kernel) rfl, by decide +kernel, by decide⟩
abbrev m_X9_begin : pw_Md := (yX9_begin, RX9, cX9_begin, 2, none)
theorem mb_X9_begin : pw_MB m_X9_begin 1 := ⟨pw_tab 10 (by decide +kernel) rfl, pw_tab 627 (by decide +kernel) rfl, by decide +kernel, by decide⟩
abbrev m_X9_push : pw_Md := (yX9_push, RX9, cX9_push, 3, none)
theorem mb_X9_push : pw_MB m_X9_push 2 := ⟨pw_tab 10 (by decide +kernel) rfl, pw_tab 631 (by decide +kernel) rfl, by decide +kernel, by decide⟩
abbrev m_X10_enter : pw_Md := (yX10_enter, RX10, cX10_enter, 2, some .int)
theorem mb_X10_enter : pw_MB m_X10_enter 1 := ⟨pw_tab 1 (by decide +kernel) rfl, pw_tab 636 (by decide +kernel) rfl, by decide +kernel, by decide⟩
abbrev m_X9_onTop : pw_Md := (yX9_onTop, RX9, cX9_onTop, 1, some .int)
theorem mb_X9_onTop : pw_MB m_X9_onTop 0 := ⟨pw_tab 10 (by decide +kernel) rfl, pw_tab 640 (by decide +kernel) rfl, by decide +kernel, by decide⟩
abbrev m_X9_markStep : pw_Md := (yX9_markStep, RX9, cX9_markStep, 2, none)
theorem mb_X9_markStep : pw_MB m_X9_markStep 1 := ⟨pw_tab 10 (by decide +kernel) rfl, pw_tab 644 (by decide +kernel) rfl, by decide +kernel, by decide⟩
abbrev m_X10_pushMarked : pw_Md := (yX10_pushMarked, RX10, cX10_pushMarked, 3, some .int)
theorem mb_X10_pushMarked : pw_MB m_X10_pushMarked 1 := ⟨pw_tab 1 (by decide +kernel) rfl, pw_tab 648 (by decide +kernel) rfl, by decide +kernel, by decide⟩
abbrev m_X9_howOften : pw_Md := (yX9_howOften, RX9, cX9_howOften, 4, some .int)
theorem mb_X9_howOften : pw_MB m_X9_howOften 1 := ⟨pw_tab 10 (by decide +kernel) rfl, pw_tab 652 (by decide +kernel) rfl, by decide +kernel, by decide⟩
abbrev m_X10_over : pw_Md := (yX10_over, RX10, cX10_over, 2, some .int)
theorem mb_X10_over : pw_MB m_X10_over 1 := ⟨pw_tab 1 (by decide +kernel) rfl, pw_tab 656 (by decide +kernel) rfl, by decide +kernel, by decide⟩
abbrev m_X9_pop : pw_Md := (yX9_pop, RX9, cX9_pop, 1, none)
theorem mb_X9_pop : pw_MB m_X9_pop 0 := ⟨pw_tab 10 (by decide +kernel) rfl, pw_tab 660 (by decide +kernel) rfl, by decide +kernel, by decide⟩
abbrev m_X10_leave : pw_Md := (yX10_leave, RX10, cX10_leave, 1, some .int)
theorem mb_X10_leave : pw_MB m_X10_leave 0 := ⟨pw_tab 1 (by decide +kernel) rfl, pw_tab 664 (by decide +kernel) rfl, by decide +kernel, by decide⟩
abbrev m_X10_ran : pw_Md := (yX10_ran, RX10, cX10_ran, 2, some .int)
theorem mb_X10_ran : pw_MB m_X10_ran 1 := ⟨pw_tab 1 (by decide +kernel) rfl, pw_tab 668 (by decide +kernel) rfl, by decide +kernel, by decide⟩
abbrev m_X10_stayedWithinDepth : pw_Md := (yX10_stayedWithinDepth, RX10, cX10_stayedWithinDepth, 2, some .boolean)
theorem mb_X10_stayedWithinDepth : pw_MB m_X10_stayedWithinDepth 0 := ⟨pw_tab 1 (by decide +kernel) rfl, pw_tab 672 (by decide +kernel) rfl, by decide +kernel, by decide⟩
abbrev m_X10_sheet : pw_Md := (yX10_sheet, RX10, cX10_sheet, 4, some .int)
theorem mb_X10_sheet : pw_MB m_X10_sheet 3 := ⟨pw_tab 1 (by decide +kernel) rfl, pw_tab 676 (by decide +kernel) rfl, by decide +kernel, by decide⟩
abbrev m_X10_isSheet : pw_Md := (yX10_isSheet, RX10, cX10_isSheet, 1, some .boolean)
theorem mb_X10_isSheet : pw_MB m_X10_isSheet 1 := ⟨pw_tab 1 (by decide +kernel) rfl, pw_tab 679 (by decide +kernel) rfl, by decide +kernel, by decide⟩
abbrev m_X10_isLane : pw_Md := (yX10_isLane, RX10, cX10_isLane, 1, some .boolean)
theorem mb_X10_isLane : pw_MB m_X10_isLane 1 := ⟨pw_tab 1 (by decide +kernel) rfl, pw_tab 682 (by decide +kernel) rfl, by decide +kernel, by decide⟩
abbrev m_X7_makeNew : pw_Md := (yX7_makeNew, RX7, cX7_makeNew, 4, none)
theorem mb_X7_makeNew : pw_MB m_X7_makeNew 2 := ⟨pw_tab 11 (by decide +kernel) rfl, pw_tab 686 (by decide +kernel) rfl, by decide +kernel, by decide⟩
abbrev m_X10_lay : pw_Md := (yX10_lay, RX10, cX10_lay, 5, some .int)
theorem mb_X10_lay : pw_MB m_X10_lay 3 := ⟨pw_tab 1 (by decide +kernel) rfl, pw_tab 690 (by decide +kernel) rfl, by decide +kernel, by decide⟩
abbrev m_X7_isNothing : pw_Md := (yX7_isNothing, RX7, cX7_isNothing, 1, some .boolean)
theorem mb_X7_isNothing : pw_MB m_X7_isNothing 0 := ⟨pw_tab 11 (by decide +kernel) rfl, pw_tab 694 (by decide +kernel) rfl, by decide +kernel, by decide⟩
abbrev m_X7_put : pw_Md := (yX7_put, RX7, cX7_put, 3, none)
theorem mb_X7_put : pw_MB m_X7_put 2 := ⟨pw_tab 11 (by decide +kernel) rfl, pw_tab 698 (by decide +kernel) rfl, by decide +kernel, by decide⟩
abbrev m_X10_scan : pw_Md := (yX10_scan, RX10, cX10_scan, 8, some .int)
theorem mb_X10_scan : pw_MB m_X10_scan 4 := ⟨pw_tab 1 (by decide +kernel) rfl, pw_tab 702 (by decide +kernel) rfl, by decide +kernel, by decide⟩
abbrev m_X10_addFromSheet : pw_Md := (yX10_addFromSheet, RX10, cX10_addFromSheet, 9, some .int)
theorem mb_X10_addFromSheet : pw_MB m_X10_addFromSheet 3 := ⟨pw_tab 1 (by decide +kernel) rfl, pw_tab 706 (by decide +kernel) rfl, by decide +kernel, by decide⟩
abbrev m_X7_holdsCall : pw_Md := (yX7_holdsCall, RX7, cX7_holdsCall, 3, some .boolean)
theorem mb_X7_holdsCall : pw_MB m_X7_holdsCall 2 := ⟨pw_tab 11 (by decide +kernel) rfl, pw_tab 710 (by decide +kernel) rfl, by decide +kernel, by decide⟩
abbrev m_X10_removeFromSheet : pw_Md := (yX10_removeFromSheet, RX10, cX10_removeFromSheet, 6, none)
theorem mb_X10_removeFromSheet : pw_MB m_X10_removeFromSheet 3 := ⟨pw_tab 1 (by decide +kernel) rfl, pw_tab 714 (by decide +kernel) rfl, by decide +kernel, by decide⟩
abbrev m_X10_count : pw_Md := (yX10_count, RX10, cX10_count, 2, some .int)
theorem mb_X10_count : pw_MB m_X10_count 1 := ⟨pw_tab 1 (by decide +kernel) rfl, pw_tab 718 (by decide +kernel) rfl, by decide +kernel, by decide⟩
abbrev m_X2_howManyRings : pw_Md := (yX2_howManyRings, RX2, cX2_howManyRings, 3, some .int)
theorem mb_X2_howManyRings : pw_MB m_X2_howManyRings 0 := ⟨pw_tab 5 (by decide +kernel) rfl, pw_tab 722 (by decide +kernel) rfl, by decide +kernel, by decide⟩
abbrev m_X11_init : pw_Md := (yX11_init, RX11, cX11_init, 1, none)
theorem mb_X11_init : pw_MB m_X11_init 0 := ⟨pw_tab 12 (by decide +kernel) rfl, pw_tab 727 (by decide +kernel) rfl, by decide +kernel, by decide⟩
abbrev m_X11_routine : pw_Md := (yX11_routine, RX11, cX11_routine, 2, some .int)
theorem mb_X11_routine : pw_MB m_X11_routine 1 := ⟨pw_tab 12 (by decide +kernel) rfl, pw_tab 850 (by decide +kernel) rfl, by decide +kernel, by decide⟩
abbrev m_X11_in : pw_Md := (yX11_in, RX11, cX11_in, 6, some .boolean)
theorem mb_X11_in : pw_MB m_X11_in 3 := ⟨pw_tab 12 (by decide +kernel) rfl, pw_tab 854 (by decide +kernel) rfl, by decide +kernel, by decide⟩
abbrev m_X11_frame : pw_Md := (yX11_frame, RX11, cX11_frame, 4, some .int)
theorem mb_X11_frame : pw_MB m_X11_frame 2 := ⟨pw_tab 12 (by decide +kernel) rfl, pw_tab 858 (by decide +kernel) rfl, by decide +kernel, by decide⟩
abbrev m_X11_is : pw_Md := (yX11_is, RX11, cX11_is, 2, some .boolean)
theorem mb_X11_is : pw_MB m_X11_is 1 := ⟨pw_tab 12 (by decide +kernel) rfl, pw_tab 862 (by decide +kernel) rfl, by decide +kernel, by decide⟩
abbrev m_X11_turns : pw_Md := (yX11_turns, RX11, cX11_turns, 4, some .int)
theorem mb_X11_turns : pw_MB m_X11_turns 2 := ⟨pw_tab 12 (by decide +kernel) rfl, pw_tab 866 (by decide +kernel) rfl, by decide +kernel, by decide⟩
abbrev m_X11_call : pw_Md := (yX11_call, RX11, cX11_call, 5, some .int)
theorem mb_X11_call : pw_MB m_X11_call 4 := ⟨pw_tab 12 (by decide +kernel) rfl, pw_tab 871 (by decide +kernel) rfl, by decide +kernel, by decide⟩
abbrev m_X11_sortOf : pw_Md := (yX11_sortOf, RX11, cX11_sortOf, 2, some .int)
theorem mb_X11_sortOf : pw_MB m_X11_sortOf 2 := ⟨pw_tab 12 (by decide +kernel) rfl, pw_tab 874 (by decide +kernel) rfl, by decide +kernel, by decide⟩
abbrev m_X11_called : pw_Md := (yX11_called, RX11, cX11_called, 4, some .int)
theorem mb_X11_called : pw_MB m_X11_called 3 := ⟨pw_tab 12 (by decide +kernel) rfl, pw_tab 878 (by decide +kernel) rfl, by decide +kernel, by decide⟩
abbrev m_X11_isPointer : pw_Md := (yX11_isPointer, RX11, cX11_isPointer, 1, some .boolean)
theorem mb_X11_isPointer : pw_MB m_X11_isPointer 1 := ⟨pw_tab 12 (by decide +kernel) rfl, pw_tab 882 (by decide +kernel) rfl, by decide +kernel, by decide⟩
abbrev m_X11_find : pw_Md := (yX11_find, RX11, cX11_find, 5, some .int)
theorem mb_X11_find : pw_MB m_X11_find 3 := ⟨pw_tab 12 (by decide +kernel) rfl, pw_tab 887 (by decide +kernel) rfl, by decide +kernel, by decide⟩
abbrev m_X11_cut : pw_Md := (yX11_cut, RX11, cX11_cut, 6, some .int)
theorem mb_X11_cut : pw_MB m_X11_cut 4 := ⟨pw_tab 12 (by decide +kernel) rfl, pw_tab 891 (by decide +kernel) rfl, by decide +kernel, by decide⟩
abbrev m_X11_take : pw_Md := (yX11_take, RX11, cX11_take, 3, some .int)
theorem mb_X11_take : pw_MB m_X11_take 2 := ⟨pw_tab 12 (by decide +kernel) rfl, pw_tab 895 (by decide +kernel) rfl, by decide +kernel, by decide⟩
abbrev m_X11_flow : pw_Md := (yX11_flow, RX11, cX11_flow, 3, some .int)
theorem mb_X11_flow : pw_MB m_X11_flow 2 := ⟨pw_tab 12 (by decide +kernel) rfl, pw_tab 899 (by decide +kernel) rfl, by decide +kernel, by decide⟩
abbrev m_X11_goals : pw_Md := (yX11_goals, RX11, cX11_goals, 2, some .int)
theorem mb_X11_goals : pw_MB m_X11_goals 1 := ⟨pw_tab 12 (by decide +kernel) rfl, pw_tab 903 (by decide +kernel) rfl, by decide +kernel, by decide⟩
abbrev m_X11_layGoals : pw_Md := (yX11_layGoals, RX11, cX11_layGoals, 4, none)
theorem mb_X11_layGoals : pw_MB m_X11_layGoals 0 := ⟨pw_tab 12 (by decide +kernel) rfl, pw_tab 907 (by decide +kernel) rfl, by decide +kernel, by decide⟩
abbrev m_X11_about : pw_Md := (yX11_about, RX11, cX11_about, 5, some .int)
theorem mb_X11_about : pw_MB m_X11_about 2 := ⟨pw_tab 12 (by decide +kernel) rfl, pw_tab 911 (by decide +kernel) rfl, by decide +kernel, by decide⟩
abbrev m_X11_layNet : pw_Md := (yX11_layNet, RX11, cX11_layNet, 3, none)
theorem mb_X11_layNet : pw_MB m_X11_layNet 0 := ⟨pw_tab 12 (by decide +kernel) rfl, pw_tab 916 (by decide +kernel) rfl, by decide +kernel, by decide⟩
abbrev m_X11_isRing : pw_Md := (yX11_isRing, RX11, cX11_isRing, 4, some .boolean)
theorem mb_X11_isRing : pw_MB m_X11_isRing 1 := ⟨pw_tab 12 (by decide +kernel) rfl, pw_tab 920 (by decide +kernel) rfl, by decide +kernel, by decide⟩
abbrev m_X11_leastOf : pw_Md := (yX11_leastOf, RX11, cX11_leastOf, 2, some .int)
theorem mb_X11_leastOf : pw_MB m_X11_leastOf 1 := ⟨pw_tab 12 (by decide +kernel) rfl, pw_tab 923 (by decide +kernel) rfl, by decide +kernel, by decide⟩
abbrev m_X11_sizeOf : pw_Md := (yX11_sizeOf, RX11, cX11_sizeOf, 3, some .int)
theorem mb_X11_sizeOf : pw_MB m_X11_sizeOf 1 := ⟨pw_tab 12 (by decide +kernel) rfl, pw_tab 926 (by decide +kernel) rfl, by decide +kernel, by decide⟩
abbrev m_X11_depth : pw_Md := (yX11_depth, RX11, cX11_depth, 2, some .int)
theorem mb_X11_depth : pw_MB m_X11_depth 1 := ⟨pw_tab 12 (by decide +kernel) rfl, pw_tab 930 (by decide +kernel) rfl, by decide +kernel, by decide⟩
abbrev m_X11_layDepths : pw_Md := (yX11_layDepths, RX11, cX11_layDepths, 3, none)
theorem mb_X11_layDepths : pw_MB m_X11_layDepths 0 := ⟨pw_tab 12 (by decide +kernel) rfl, pw_tab 934 (by decide +kernel) rfl, by decide +kernel, by decide⟩
abbrev m_X11_reckoned : pw_Md := (yX11_reckoned, RX11, cX11_reckoned, 8, some .int)
theorem mb_X11_reckoned : pw_MB m_X11_reckoned 1 := ⟨pw_tab 12 (by decide +kernel) rfl, pw_tab 938 (by decide +kernel) rfl, by decide +kernel, by decide⟩
abbrev m_X11_greatest : pw_Md := (yX11_greatest, RX11, cX11_greatest, 6, some .int)
theorem mb_X11_greatest : pw_MB m_X11_greatest 1 := ⟨pw_tab 12 (by decide +kernel) rfl, pw_tab 942 (by decide +kernel) rfl, by decide +kernel, by decide⟩
abbrev m_X11_own : pw_Md := (yX11_own, RX11, cX11_own, 4, some .int)
theorem mb_X11_own : pw_MB m_X11_own 1 := ⟨pw_tab 12 (by decide +kernel) rfl, pw_tab 946 (by decide +kernel) rfl, by decide +kernel, by decide⟩
abbrev m_X11_way : pw_Md := (yX11_way, RX11, cX11_way, 5, some .int)
theorem mb_X11_way : pw_MB m_X11_way 2 := ⟨pw_tab 12 (by decide +kernel) rfl, pw_tab 950 (by decide +kernel) rfl, by decide +kernel, by decide⟩
abbrev m_X11_reachesRing : pw_Md := (yX11_reachesRing, RX11, cX11_reachesRing, 4, some .boolean)
theorem mb_X11_reachesRing : pw_MB m_X11_reachesRing 1 := ⟨pw_tab 12 (by decide +kernel) rfl, pw_tab 954 (by decide +kernel) rfl, by decide +kernel, by decide⟩
abbrev m_X11_nextOf : pw_Md := (yX11_nextOf, RX11, cX11_nextOf, 3, some .int)
theorem mb_X11_nextOf : pw_MB m_X11_nextOf 1 := ⟨pw_tab 12 (by decide +kernel) rfl, pw_tab 958 (by decide +kernel) rfl, by decide +kernel, by decide⟩
abbrev m_X11_endless : pw_Md := (yX11_endless, RX11, cX11_endless, 3, some .int)
theorem mb_X11_endless : pw_MB m_X11_endless 1 := ⟨pw_tab 12 (by decide +kernel) rfl, pw_tab 962 (by decide +kernel) rfl, by decide +kernel, by decide⟩
abbrev m_X11_interrupt : pw_Md := (yX11_interrupt, RX11, cX11_interrupt, 4, some .int)
theorem mb_X11_interrupt : pw_MB m_X11_interrupt 3 := ⟨pw_tab 12 (by decide +kernel) rfl, pw_tab 966 (by decide +kernel) rfl, by decide +kernel, by decide⟩
abbrev m_X11_task : pw_Md := (yX11_task, RX11, cX11_task, 4, some .int)
theorem mb_X11_task : pw_MB m_X11_task 3 := ⟨pw_tab 12 (by decide +kernel) rfl, pw_tab 971 (by decide +kernel) rfl, by decide +kernel, by decide⟩
abbrev m_X11_total : pw_Md := (yX11_total, RX11, cX11_total, 4, some .int)
theorem mb_X11_total : pw_MB m_X11_total 2 := ⟨pw_tab 12 (by decide +kernel) rfl, pw_tab 975 (by decide +kernel) rfl, by decide +kernel, by decide⟩
abbrev m_X11_isTask : pw_Md := (yX11_isTask, RX11, cX11_isTask, 2, some .boolean)
theorem mb_X11_isTask : pw_MB m_X11_isTask 1 := ⟨pw_tab 12 (by decide +kernel) rfl, pw_tab 979 (by decide +kernel) rfl, by decide +kernel, by decide⟩
abbrev m_X11_totalOf : pw_Md := (yX11_totalOf, RX11, cX11_totalOf, 4, some .int)
theorem mb_X11_totalOf : pw_MB m_X11_totalOf 1 := ⟨pw_tab 12 (by decide +kernel) rfl, pw_tab 983 (by decide +kernel) rfl, by decide +kernel, by decide⟩
abbrev m_X11_top : pw_Md := (yX11_top, RX11, cX11_top, 7, some .int)
theorem mb_X11_top : pw_MB m_X11_top 1 := ⟨pw_tab 12 (by decide +kernel) rfl, pw_tab 987 (by decide +kernel) rfl, by decide +kernel, by decide⟩
abbrev m_X11_apart : pw_Md := (yX11_apart, RX11, cX11_apart, 5, some .int)
theorem mb_X11_apart : pw_MB m_X11_apart 3 := ⟨pw_tab 12 (by decide +kernel) rfl, pw_tab 991 (by decide +kernel) rfl, by decide +kernel, by decide⟩
abbrev m_X11_shared : pw_Md := (yX11_shared, RX11, cX11_shared, 1, some .int)
theorem mb_X11_shared : pw_MB m_X11_shared 0 := ⟨pw_tab 12 (by decide +kernel) rfl, pw_tab 995 (by decide +kernel) rfl, by decide +kernel, by decide⟩
abbrev m_X11_share : pw_Md := (yX11_share, RX11, cX11_share, 4, some .boolean)
theorem mb_X11_share : pw_MB m_X11_share 0 := ⟨pw_tab 12 (by decide +kernel) rfl, pw_tab 999 (by decide +kernel) rfl, by decide +kernel, by decide⟩
abbrev m_X11_sumOf : pw_Md := (yX11_sumOf, RX11, cX11_sumOf, 7, some .int)
theorem mb_X11_sumOf : pw_MB m_X11_sumOf 0 := ⟨pw_tab 12 (by decide +kernel) rfl, pw_tab 1003 (by decide +kernel) rfl, by decide +kernel, by decide⟩
abbrev m_X11_nextWay : pw_Md := (yX11_nextWay, RX11, cX11_nextWay, 3, some .boolean)
theorem mb_X11_nextWay : pw_MB m_X11_nextWay 0 := ⟨pw_tab 12 (by decide +kernel) rfl, pw_tab 1007 (by decide +kernel) rfl, by decide +kernel, by decide⟩
abbrev m_X11_highest : pw_Md := (yX11_highest, RX11, cX11_highest, 4, some .int)
theorem mb_X11_highest : pw_MB m_X11_highest 1 := ⟨pw_tab 12 (by decide +kernel) rfl, pw_tab 1011 (by decide +kernel) rfl, by decide +kernel, by decide⟩
abbrev m_X11_group : pw_Md := (yX11_group, RX11, cX11_group, 2, some .int)
theorem mb_X11_group : pw_MB m_X11_group 1 := ⟨pw_tab 12 (by decide +kernel) rfl, pw_tab 1015 (by decide +kernel) rfl, by decide +kernel, by decide⟩
abbrev m_X11_saves : pw_Md := (yX11_saves, RX11, cX11_saves, 3, some .int)
theorem mb_X11_saves : pw_MB m_X11_saves 2 := ⟨pw_tab 12 (by decide +kernel) rfl, pw_tab 1019 (by decide +kernel) rfl, by decide +kernel, by decide⟩
abbrev m_X11_savesOf : pw_Md := (yX11_savesOf, RX11, cX11_savesOf, 6, some .int)
theorem mb_X11_savesOf : pw_MB m_X11_savesOf 2 := ⟨pw_tab 12 (by decide +kernel) rfl, pw_tab 1023 (by decide +kernel) rfl, by decide +kernel, by decide⟩
abbrev m_X11_best : pw_Md := (yX11_best, RX11, cX11_best, 6, some .int)
theorem mb_X11_best : pw_MB m_X11_best 1 := ⟨pw_tab 12 (by decide +kernel) rfl, pw_tab 1027 (by decide +kernel) rfl, by decide +kernel, by decide⟩
abbrev m_X11_run : pw_Md := (yX11_run, RX11, cX11_run, 2, some .int)
theorem mb_X11_run : pw_MB m_X11_run 1 := ⟨pw_tab 12 (by decide +kernel) rfl, pw_tab 1031 (by decide +kernel) rfl, by decide +kernel, by decide⟩
abbrev m_X11_put : pw_Md := (yX11_put, RX11, cX11_put, 4, none)
theorem mb_X11_put : pw_MB m_X11_put 1 := ⟨pw_tab 12 (by decide +kernel) rfl, pw_tab 1035 (by decide +kernel) rfl, by decide +kernel, by decide⟩
abbrev m_X11_enter : pw_Md := (yX11_enter, RX11, cX11_enter, 2, some .int)
theorem mb_X11_enter : pw_MB m_X11_enter 1 := ⟨pw_tab 12 (by decide +kernel) rfl, pw_tab 1039 (by decide +kernel) rfl, by decide +kernel, by decide⟩
abbrev m_X11_over : pw_Md := (yX11_over, RX11, cX11_over, 2, some .int)
theorem mb_X11_over : pw_MB m_X11_over 1 := ⟨pw_tab 12 (by decide +kernel) rfl, pw_tab 1043 (by decide +kernel) rfl, by decide +kernel, by decide⟩
abbrev m_X11_pull : pw_Md := (yX11_pull, RX11, cX11_pull, 1, none)
theorem mb_X11_pull : pw_MB m_X11_pull 0 := ⟨pw_tab 12 (by decide +kernel) rfl, pw_tab 1047 (by decide +kernel) rfl, by decide +kernel, by decide⟩
abbrev m_X11_leave : pw_Md := (yX11_leave, RX11, cX11_leave, 1, some .int)
theorem mb_X11_leave : pw_MB m_X11_leave 0 := ⟨pw_tab 12 (by decide +kernel) rfl, pw_tab 1051 (by decide +kernel) rfl, by decide +kernel, by decide⟩
abbrev m_X11_ran : pw_Md := (yX11_ran, RX11, cX11_ran, 3, some .int)
theorem mb_X11_ran : pw_MB m_X11_ran 1 := ⟨pw_tab 12 (by decide +kernel) rfl, pw_tab 1055 (by decide +kernel) rfl, by decide +kernel, by decide⟩
abbrev m_X11_sheet : pw_Md := (yX11_sheet, RX11, cX11_sheet, 5, some .int)
theorem mb_X11_sheet : pw_MB m_X11_sheet 3 := ⟨pw_tab 12 (by decide +kernel) rfl, pw_tab 1060 (by decide +kernel) rfl, by decide +kernel, by decide⟩
abbrev m_X11_lay : pw_Md := (yX11_lay, RX11, cX11_lay, 4, some .int)
theorem mb_X11_lay : pw_MB m_X11_lay 3 := ⟨pw_tab 12 (by decide +kernel) rfl, pw_tab 1065 (by decide +kernel) rfl, by decide +kernel, by decide⟩
abbrev m_X11_scan : pw_Md := (yX11_scan, RX11, cX11_scan, 12, some .int)
theorem mb_X11_scan : pw_MB m_X11_scan 4 := ⟨pw_tab 12 (by decide +kernel) rfl, pw_tab 1069 (by decide +kernel) rfl, by decide +kernel, by decide⟩
abbrev m_X11_count : pw_Md := (yX11_count, RX11, cX11_count, 4, some .int)
theorem mb_X11_count : pw_MB m_X11_count 1 := ⟨pw_tab 12 (by decide +kernel) rfl, pw_tab 1073 (by decide +kernel) rfl, by decide +kernel, by decide⟩
theorem fl_X5_9 : pw_FL RX5 9 5 0 := ⟨RX5, TX5, 3, rfl, by decide, pw_tab 29 (by decide +kernel) rfl, pw_uX5⟩
theorem fl_X10_102 : pw_FL RX10 102 5 0 := ⟨RX5, TX5, 3, rfl, by decide, pw_tab 30 (by decide +kernel) rfl, pw_uX5⟩
theorem fl_X1_95 : pw_FL RX1 95 5 0 := ⟨RX5, TX5, 3, rfl, by decide, pw_tab 31 (by decide +kernel) rfl, pw_uX5⟩
theorem fl_X5_15 : pw_FL RX5 15 5 1 := ⟨RX5, TX5, 3, rfl, by decide, pw_tab 32 (by decide +kernel) rfl, pw_uX5⟩
theorem fl_X10_106 : pw_FL RX10 106 5 1 := ⟨RX5, TX5, 3, rfl, by decide, pw_tab 33 (by decide +kernel) rfl, pw_uX5⟩
theorem fl_X1_83 : pw_FL RX1 83 5 1 := ⟨RX5, TX5, 3, rfl, by decide, pw_tab 34 (by decide +kernel) rfl, pw_uX5⟩
theorem fl_X5_18 : pw_FL RX5 18 5 2 := ⟨RX5, TX5, 3, rfl, by decide, pw_tab 35 (by decide +kernel) rfl, pw_uX5⟩
theorem fp_X5_18 : pw_FP RX5 18 5 2 .int := ⟨RX5, TX5, 3, tyX5, rfl, by decide, pw_tab 35 (by decide +kernel) rfl, pw_uX5, tyX5_ok, nmX5, rfl, by decide +kernel⟩
theorem fl_X10_87 : pw_FL RX10 87 5 2 := ⟨RX5, TX5, 3, rfl, by decide, pw_tab 36 (by decide +kernel) rfl, pw_uX5⟩
theorem fp_X10_87 : pw_FP RX10 87 5 2 .int := ⟨RX5, TX5, 3, tyX5, rfl, by decide, pw_tab 36 (by decide +kernel) rfl, pw_uX5, tyX5_ok, nmX5, rfl, by decide +kernel⟩
theorem fl_X1_78 : pw_FL RX1 78 5 2 := ⟨RX5, TX5, 3, rfl, by decide, pw_tab 37 (by decide +kernel) rfl, pw_uX5⟩
theorem fp_X1_78 : pw_FP RX1 78 5 2 .int := ⟨RX5, TX5, 3, tyX5, rfl, by decide, pw_tab 37 (by decide +kernel) rfl, pw_uX5, tyX5_ok, nmX5, rfl, by decide +kernel⟩
theorem fl_X2_58 : pw_FL RX2 58 5 2 := ⟨RX5, TX5, 3, rfl, by decide, pw_tab 38 (by decide +kernel) rfl, pw_uX5⟩
theorem fp_X2_58 : pw_FP RX2 58 5 2 .int := ⟨RX5, TX5, 3, tyX5, rfl, by decide, pw_tab 38 (by decide +kernel) rfl, pw_uX5, tyX5_ok, nmX5, rfl, by decide +kernel⟩
theorem fl_X4_9 : pw_FL RX4 9 4 0 := ⟨RX4, TX4, 3, rfl, by decide, pw_tab 53 (by decide +kernel) rfl, pw_uX4⟩
theorem fl_X10_133 : pw_FL RX10 133 4 0 := ⟨RX4, TX4, 3, rfl, by decide, pw_tab 54 (by decide +kernel) rfl, pw_uX4⟩
theorem fl_X4_15 : pw_FL RX4 15 4 1 := ⟨RX4, TX4, 3, rfl, by decide, pw_tab 55 (by decide +kernel) rfl, pw_uX4⟩
theorem fl_X10_144 : pw_FL RX10 144 4 1 := ⟨RX4, TX4, 3, rfl, by decide, pw_tab 56 (by decide +kernel) rfl, pw_uX4⟩
theorem fl_X4_18 : pw_FL RX4 18 4 2 := ⟨RX4, TX4, 3, rfl, by decide, pw_tab 57 (by decide +kernel) rfl, pw_uX4⟩
theorem fl_X2_74 : pw_FL RX2 74 4 2 := ⟨RX4, TX4, 3, rfl, by decide, pw_tab 58 (by decide +kernel) rfl, pw_uX4⟩
theorem fl_X10_150 : pw_FL RX10 150 4 2 := ⟨RX4, TX4, 3, rfl, by decide, pw_tab 59 (by decide +kernel) rfl, pw_uX4⟩
theorem fl_X0_11 : pw_FL RX0 11 0 0 := ⟨RX0, TX0, 2, rfl, by decide, pw_tab 75 (by decide +kernel) rfl, pw_uX0⟩
theorem fl_X2_79 : pw_FL RX2 79 0 0 := ⟨RX0, TX0, 2, rfl, by decide, pw_tab 76 (by decide +kernel) rfl, pw_uX0⟩
theorem fl_X0_20 : pw_FL RX0 20 0 1 := ⟨RX0, TX0, 2, rfl, by decide, pw_tab 77 (by decide +kernel) rfl, pw_uX0⟩
theorem fp_X0_20 : pw_FP RX0 20 0 1 .int := ⟨RX0, TX0, 2, tyX0, rfl, by decide, pw_tab 77 (by decide +kernel) rfl, pw_uX0, tyX0_ok, nmX0, rfl, by decide +kernel⟩
theorem fl_X10_120 : pw_FL RX10 120 0 1 := ⟨RX0, TX0, 2, rfl, by decide, pw_tab 78 (by decide +kernel) rfl, pw_uX0⟩
theorem fp_X10_120 : pw_FP RX10 120 0 1 .int := ⟨RX0, TX0, 2, tyX0, rfl, by decide, pw_tab 78 (by decide +kernel) rfl, pw_uX0, tyX0_ok, nmX0, rfl, by decide +kernel⟩
theorem fl_X2_31 : pw_FL RX2 31 2 0 := ⟨RX2, TX2, 11, rfl, by decide, pw_tab 90 (by decide +kernel) rfl, pw_uX2⟩
theorem fl_X2_35 : pw_FL RX2 35 2 1 := ⟨RX2, TX2, 11, rfl, by decide, pw_tab 91 (by decide +kernel) rfl, pw_uX2⟩
theorem fl_X2_39 : pw_FL RX2 39 2 2 := ⟨RX2, TX2, 11, rfl, by decide, pw_tab 92 (by decide +kernel) rfl, pw_uX2⟩
theorem fl_X2_9 : pw_FL RX2 9 2 3 := ⟨RX2, TX2, 11, rfl, by decide, pw_tab 93 (by decide +kernel) rfl, pw_uX2⟩
theorem fp_X2_9 : pw_FP RX2 9 2 3 .boolean := ⟨RX2, TX2, 11, tyX2, rfl, by decide, pw_tab 93 (by decide +kernel) rfl, pw_uX2, tyX2_ok, nmX2, rfl, by decide +kernel⟩
theorem fl_X2_15 : pw_FL RX2 15 2 4 := ⟨RX2, TX2, 11, rfl, by decide, pw_tab 94 (by decide +kernel) rfl, pw_uX2⟩
theorem fl_X1_66 : pw_FL RX1 66 2 4 := ⟨RX2, TX2, 11, rfl, by decide, pw_tab 95 (by decide +kernel) rfl, pw_uX2⟩
theorem fl_X10_250 : pw_FL RX10 250 2 4 := ⟨RX2, TX2, 11, rfl, by decide, pw_tab 96 (by decide +kernel) rfl, pw_uX2⟩
theorem fl_X2_19 : pw_FL RX2 19 2 5 := ⟨RX2, TX2, 11, rfl, by decide, pw_tab 97 (by decide +kernel) rfl, pw_uX2⟩
theorem fl_X1_75 : pw_FL RX1 75 2 5 := ⟨RX2, TX2, 11, rfl, by decide, pw_tab 98 (by decide +kernel) rfl, pw_uX2⟩
theorem fl_X10_263 : pw_FL RX10 263 2 5 := ⟨RX2, TX2, 11, rfl, by decide, pw_tab 99 (by decide +kernel) rfl, pw_uX2⟩
theorem fl_X2_22 : pw_FL RX2 22 2 6 := ⟨RX2, TX2, 11, rfl, by decide, pw_tab 100 (by decide +kernel) rfl, pw_uX2⟩
theorem fl_X10_165 : pw_FL RX10 165 2 6 := ⟨RX2, TX2, 11, rfl, by decide, pw_tab 101 (by decide +kernel) rfl, pw_uX2⟩
theorem fl_X2_25 : pw_FL RX2 25 2 7 := ⟨RX2, TX2, 11, rfl, by decide, pw_tab 102 (by decide +kernel) rfl, pw_uX2⟩
theorem fl_X1_38 : pw_FL RX1 38 2 7 := ⟨RX2, TX2, 11, rfl, by decide, pw_tab 103 (by decide +kernel) rfl, pw_uX2⟩
theorem fl_X10_159 : pw_FL RX10 159 2 7 := ⟨RX2, TX2, 11, rfl, by decide, pw_tab 104 (by decide +kernel) rfl, pw_uX2⟩
theorem fl_X1_41 : pw_FL RX1 41 2 8 := ⟨RX2, TX2, 11, rfl, by decide, pw_tab 105 (by decide +kernel) rfl, pw_uX2⟩
theorem fp_X1_41 : pw_FP RX1 41 2 8 .int := ⟨RX2, TX2, 11, tyX2, rfl, by decide, pw_tab 105 (by decide +kernel) rfl, pw_uX2, tyX2_ok, nmX2, rfl, by decide +kernel⟩
theorem fl_X2_71 : pw_FL RX2 71 2 8 := ⟨RX2, TX2, 11, rfl, by decide, pw_tab 106 (by decide +kernel) rfl, pw_uX2⟩
theorem fp_X2_71 : pw_FP RX2 71 2 8 .int := ⟨RX2, TX2, 11, tyX2, rfl, by decide, pw_tab 106 (by decide +kernel) rfl, pw_uX2, tyX2_ok, nmX2, rfl, by decide +kernel⟩
theorem fl_X10_156 : pw_FL RX10 156 2 8 := ⟨RX2, TX2, 11, rfl, by decide, pw_tab 107 (by decide +kernel) rfl, pw_uX2⟩
theorem fp_X10_156 : pw_FP RX10 156 2 8 .int := ⟨RX2, TX2, 11, tyX2, rfl, by decide, pw_tab 107 (by decide +kernel) rfl, pw_uX2, tyX2_ok, nmX2, rfl, by decide +kernel⟩
theorem fl_X2_28 : pw_FL RX2 28 2 9 := ⟨RX2, TX2, 11, rfl, by decide, pw_tab 108 (by decide +kernel) rfl, pw_uX2⟩
theorem fl_X1_35 : pw_FL RX1 35 2 9 := ⟨RX2, TX2, 11, rfl, by decide, pw_tab 109 (by decide +kernel) rfl, pw_uX2⟩
theorem fl_X1_32 : pw_FL RX1 32 2 10 := ⟨RX2, TX2, 11, rfl, by decide, pw_tab 110 (by decide +kernel) rfl, pw_uX2⟩
theorem fp_X1_32 : pw_FP RX1 32 2 10 .int := ⟨RX2, TX2, 11, tyX2, rfl, by decide, pw_tab 110 (by decide +kernel) rfl, pw_uX2, tyX2_ok, nmX2, rfl, by decide +kernel⟩
theorem fl_X2_68 : pw_FL RX2 68 2 10 := ⟨RX2, TX2, 11, rfl, by decide, pw_tab 111 (by decide +kernel) rfl, pw_uX2⟩
theorem fp_X2_68 : pw_FP RX2 68 2 10 .int := ⟨RX2, TX2, 11, tyX2, rfl, by decide, pw_tab 111 (by decide +kernel) rfl, pw_uX2, tyX2_ok, nmX2, rfl, by decide +kernel⟩
theorem fl_X1_19 : pw_FL RX1 19 1 0 := ⟨RX1, TX1, 4, rfl, by decide, pw_tab 141 (by decide +kernel) rfl, pw_uX1⟩
theorem fl_X1_23 : pw_FL RX1 23 1 1 := ⟨RX1, TX1, 4, rfl, by decide, pw_tab 142 (by decide +kernel) rfl, pw_uX1⟩
theorem fl_X1_9 : pw_FL RX1 9 1 2 := ⟨RX1, TX1, 4, rfl, by decide, pw_tab 143 (by decide +kernel) rfl, pw_uX1⟩
theorem fp_X1_9 : pw_FP RX1 9 1 2 .int := ⟨RX1, TX1, 4, tyX1, rfl, by decide, pw_tab 143 (by decide +kernel) rfl, pw_uX1, tyX1_ok, nmX1, rfl, by decide +kernel⟩
theorem fl_X1_15 : pw_FL RX1 15 1 3 := ⟨RX1, TX1, 4, rfl, by decide, pw_tab 144 (by decide +kernel) rfl, pw_uX1⟩
theorem fl_X10_180 : pw_FL RX10 180 1 3 := ⟨RX1, TX1, 4, rfl, by decide, pw_tab 145 (by decide +kernel) rfl, pw_uX1⟩
theorem fl_X3_9 : pw_FL RX3 9 3 0 := ⟨RX3, TX3, 4, rfl, by decide, pw_tab 161 (by decide +kernel) rfl, pw_uX3⟩
theorem fl_X3_15 : pw_FL RX3 15 3 1 := ⟨RX3, TX3, 4, rfl, by decide, pw_tab 162 (by decide +kernel) rfl, pw_uX3⟩
theorem fl_X3_18 : pw_FL RX3 18 3 2 := ⟨RX3, TX3, 4, rfl, by decide, pw_tab 163 (by decide +kernel) rfl, pw_uX3⟩
theorem fl_X3_21 : pw_FL RX3 21 3 3 := ⟨RX3, TX3, 4, rfl, by decide, pw_tab 164 (by decide +kernel) rfl, pw_uX3⟩
theorem fp_X3_21 : pw_FP RX3 21 3 3 .int := ⟨RX3, TX3, 4, tyX3, rfl, by decide, pw_tab 164 (by decide +kernel) rfl, pw_uX3, tyX3_ok, nmX3, rfl, by decide +kernel⟩
theorem fl_X10_199 : pw_FL RX10 199 3 3 := ⟨RX3, TX3, 4, rfl, by decide, pw_tab 165 (by decide +kernel) rfl, pw_uX3⟩
theorem fp_X10_199 : pw_FP RX10 199 3 3 .int := ⟨RX3, TX3, 4, tyX3, rfl, by decide, pw_tab 165 (by decide +kernel) rfl, pw_uX3, tyX3_ok, nmX3, rfl, by decide +kernel⟩
theorem fl_X8_9 : pw_FL RX8 9 8 0 := ⟨RX8, TX8, 5, rfl, by decide, pw_tab 181 (by decide +kernel) rfl, pw_uX8⟩
theorem fl_X10_207 : pw_FL RX10 207 8 0 := ⟨RX8, TX8, 5, rfl, by decide, pw_tab 182 (by decide +kernel) rfl, pw_uX8⟩
theorem fl_X8_15 : pw_FL RX8 15 8 1 := ⟨RX8, TX8, 5, rfl, by decide, pw_tab 183 (by decide +kernel) rfl, pw_uX8⟩
theorem fl_X10_209 : pw_FL RX10 209 8 1 := ⟨RX8, TX8, 5, rfl, by decide, pw_tab 184 (by decide +kernel) rfl, pw_uX8⟩
theorem fl_X8_18 : pw_FL RX8 18 8 2 := ⟨RX8, TX8, 5, rfl, by decide, pw_tab 185 (by decide +kernel) rfl, pw_uX8⟩
theorem fl_X10_326 : pw_FL RX10 326 8 2 := ⟨RX8, TX8, 5, rfl, by decide, pw_tab 186 (by decide +kernel) rfl, pw_uX8⟩
theorem fl_X8_21 : pw_FL RX8 21 8 3 := ⟨RX8, TX8, 5, rfl, by decide, pw_tab 187 (by decide +kernel) rfl, pw_uX8⟩
theorem fl_X6_47 : pw_FL RX6 47 8 3 := ⟨RX8, TX8, 5, rfl, by decide, pw_tab 188 (by decide +kernel) rfl, pw_uX8⟩
theorem fl_X10_222 : pw_FL RX10 222 8 3 := ⟨RX8, TX8, 5, rfl, by decide, pw_tab 189 (by decide +kernel) rfl, pw_uX8⟩
theorem fl_X8_24 : pw_FL RX8 24 8 4 := ⟨RX8, TX8, 5, rfl, by decide, pw_tab 190 (by decide +kernel) rfl, pw_uX8⟩
theorem fp_X8_24 : pw_FP RX8 24 8 4 .int := ⟨RX8, TX8, 5, tyX8, rfl, by decide, pw_tab 190 (by decide +kernel) rfl, pw_uX8, tyX8_ok, nmX8, rfl, by decide +kernel⟩
theorem fl_X6_38 : pw_FL RX6 38 8 4 := ⟨RX8, TX8, 5, rfl, by decide, pw_tab 191 (by decide +kernel) rfl, pw_uX8⟩
theorem fp_X6_38 : pw_FP RX6 38 8 4 .int := ⟨RX8, TX8, 5, tyX8, rfl, by decide, pw_tab 191 (by decide +kernel) rfl, pw_uX8, tyX8_ok, nmX8, rfl, by decide +kernel⟩
theorem fl_X10_202 : pw_FL RX10 202 8 4 := ⟨RX8, TX8, 5, rfl, by decide, pw_tab 192 (by decide +kernel) rfl, pw_uX8⟩
theorem fp_X10_202 : pw_FP RX10 202 8 4 .int := ⟨RX8, TX8, 5, tyX8, rfl, by decide, pw_tab 192 (by decide +kernel) rfl, pw_uX8, tyX8_ok, nmX8, rfl, by decide +kernel⟩
theorem fl_X6_9 : pw_FL RX6 9 6 0 := ⟨RX6, TX6, 6, rfl, by decide, pw_tab 210 (by decide +kernel) rfl, pw_uX6⟩
theorem fl_X10_329 : pw_FL RX10 329 6 0 := ⟨RX6, TX6, 6, rfl, by decide, pw_tab 211 (by decide +kernel) rfl, pw_uX6⟩
theorem fl_X6_15 : pw_FL RX6 15 6 1 := ⟨RX6, TX6, 6, rfl, by decide, pw_tab 212 (by decide +kernel) rfl, pw_uX6⟩
theorem fl_X10_232 : pw_FL RX10 232 6 1 := ⟨RX6, TX6, 6, rfl, by decide, pw_tab 213 (by decide +kernel) rfl, pw_uX6⟩
theorem fl_X6_18 : pw_FL RX6 18 6 2 := ⟨RX6, TX6, 6, rfl, by decide, pw_tab 214 (by decide +kernel) rfl, pw_uX6⟩
theorem fl_X6_21 : pw_FL RX6 21 6 3 := ⟨RX6, TX6, 6, rfl, by decide, pw_tab 215 (by decide +kernel) rfl, pw_uX6⟩
theorem fl_X6_24 : pw_FL RX6 24 6 4 := ⟨RX6, TX6, 6, rfl, by decide, pw_tab 216 (by decide +kernel) rfl, pw_uX6⟩
theorem fl_X6_30 : pw_FL RX6 30 6 5 := ⟨RX6, TX6, 6, rfl, by decide, pw_tab 217 (by decide +kernel) rfl, pw_uX6⟩
theorem fp_X6_30 : pw_FP RX6 30 6 5 .int := ⟨RX6, TX6, 6, tyX6, rfl, by decide, pw_tab 217 (by decide +kernel) rfl, pw_uX6, tyX6_ok, nmX6, rfl, by decide +kernel⟩
theorem fl_X9_9 : pw_FL RX9 9 9 0 := ⟨RX9, TX9, 8, rfl, by decide, pw_tab 237 (by decide +kernel) rfl, pw_uX9⟩
theorem fl_X9_15 : pw_FL RX9 15 9 1 := ⟨RX9, TX9, 8, rfl, by decide, pw_tab 238 (by decide +kernel) rfl, pw_uX9⟩
theorem fl_X9_22 : pw_FL RX9 22 9 2 := ⟨RX9, TX9, 8, rfl, by decide, pw_tab 239 (by decide +kernel) rfl, pw_uX9⟩
theorem fp_X9_22 : pw_FP RX9 22 9 2 .int := ⟨RX9, TX9, 8, tyX9, rfl, by decide, pw_tab 239 (by decide +kernel) rfl, pw_uX9, tyX9_ok, nmX9, rfl, by decide +kernel⟩
theorem fl_X10_247 : pw_FL RX10 247 9 2 := ⟨RX9, TX9, 8, rfl, by decide, pw_tab 240 (by decide +kernel) rfl, pw_uX9⟩
theorem fp_X10_247 : pw_FP RX10 247 9 2 .int := ⟨RX9, TX9, 8, tyX9, rfl, by decide, pw_tab 240 (by decide +kernel) rfl, pw_uX9, tyX9_ok, nmX9, rfl, by decide +kernel⟩
theorem fl_X9_25 : pw_FL RX9 25 9 3 := ⟨RX9, TX9, 8, rfl, by decide, pw_tab 241 (by decide +kernel) rfl, pw_uX9⟩
theorem fp_X9_25 : pw_FP RX9 25 9 3 .int := ⟨RX9, TX9, 8, tyX9, rfl, by decide, pw_tab 241 (by decide +kernel) rfl, pw_uX9, tyX9_ok, nmX9, rfl, by decide +kernel⟩
theorem fl_X10_244 : pw_FL RX10 244 9 3 := ⟨RX9, TX9, 8, rfl, by decide, pw_tab 242 (by decide +kernel) rfl, pw_uX9⟩
theorem fp_X10_244 : pw_FP RX10 244 9 3 .int := ⟨RX9, TX9, 8, tyX9, rfl, by decide, pw_tab 242 (by decide +kernel) rfl, pw_uX9, tyX9_ok, nmX9, rfl, by decide +kernel⟩
theorem fl_X9_28 : pw_FL RX9 28 9 4 := ⟨RX9, TX9, 8, rfl, by decide, pw_tab 243 (by decide +kernel) rfl, pw_uX9⟩
theorem fp_X9_28 : pw_FP RX9 28 9 4 .int := ⟨RX9, TX9, 8, tyX9, rfl, by decide, pw_tab 243 (by decide +kernel) rfl, pw_uX9, tyX9_ok, nmX9, rfl, by decide +kernel⟩
theorem fl_X10_272 : pw_FL RX10 272 9 4 := ⟨RX9, TX9, 8, rfl, by decide, pw_tab 244 (by decide +kernel) rfl, pw_uX9⟩
theorem fp_X10_272 : pw_FP RX10 272 9 4 .int := ⟨RX9, TX9, 8, tyX9, rfl, by decide, pw_tab 244 (by decide +kernel) rfl, pw_uX9, tyX9_ok, nmX9, rfl, by decide +kernel⟩
theorem fl_X9_31 : pw_FL RX9 31 9 5 := ⟨RX9, TX9, 8, rfl, by decide, pw_tab 245 (by decide +kernel) rfl, pw_uX9⟩
theorem fp_X9_31 : pw_FP RX9 31 9 5 .int := ⟨RX9, TX9, 8, tyX9, rfl, by decide, pw_tab 245 (by decide +kernel) rfl, pw_uX9, tyX9_ok, nmX9, rfl, by decide +kernel⟩
theorem fl_X10_275 : pw_FL RX10 275 9 5 := ⟨RX9, TX9, 8, rfl, by decide, pw_tab 246 (by decide +kernel) rfl, pw_uX9⟩
theorem fp_X10_275 : pw_FP RX10 275 9 5 .int := ⟨RX9, TX9, 8, tyX9, rfl, by decide, pw_tab 246 (by decide +kernel) rfl, pw_uX9, tyX9_ok, nmX9, rfl, by decide +kernel⟩
theorem fl_X9_34 : pw_FL RX9 34 9 6 := ⟨RX9, TX9, 8, rfl, by decide, pw_tab 247 (by decide +kernel) rfl, pw_uX9⟩
theorem fp_X9_34 : pw_FP RX9 34 9 6 .int := ⟨RX9, TX9, 8, tyX9, rfl, by decide, pw_tab 247 (by decide +kernel) rfl, pw_uX9, tyX9_ok, nmX9, rfl, by decide +kernel⟩
theorem fl_X10_278 : pw_FL RX10 278 9 6 := ⟨RX9, TX9, 8, rfl, by decide, pw_tab 248 (by decide +kernel) rfl, pw_uX9⟩
theorem fp_X10_278 : pw_FP RX10 278 9 6 .int := ⟨RX9, TX9, 8, tyX9, rfl, by decide, pw_tab 248 (by decide +kernel) rfl, pw_uX9, tyX9_ok, nmX9, rfl, by decide +kernel⟩
theorem fl_X9_18 : pw_FL RX9 18 9 7 := ⟨RX9, TX9, 8, rfl, by decide, pw_tab 249 (by decide +kernel) rfl, pw_uX9⟩
theorem fp_X9_18 : pw_FP RX9 18 9 7 .int := ⟨RX9, TX9, 8, tyX9, rfl, by decide, pw_tab 249 (by decide +kernel) rfl, pw_uX9, tyX9_ok, nmX9, rfl, by decide +kernel⟩
theorem fl_X10_269 : pw_FL RX10 269 9 7 := ⟨RX9, TX9, 8, rfl, by decide, pw_tab 250 (by decide +kernel) rfl, pw_uX9⟩
theorem fp_X10_269 : pw_FP RX10 269 9 7 .int := ⟨RX9, TX9, 8, tyX9, rfl, by decide, pw_tab 250 (by decide +kernel) rfl, pw_uX9, tyX9_ok, nmX9, rfl, by decide +kernel⟩
theorem fl_X7_9 : pw_FL RX7 9 7 0 := ⟨RX7, TX7, 3, rfl, by decide, pw_tab 275 (by decide +kernel) rfl, pw_uX7⟩
theorem fl_X10_320 : pw_FL RX10 320 7 0 := ⟨RX7, TX7, 3, rfl, by decide, pw_tab 276 (by decide +kernel) rfl, pw_uX7⟩
theorem fl_X7_19 : pw_FL RX7 19 7 1 := ⟨RX7, TX7, 3, rfl, by decide, pw_tab 277 (by decide +kernel) rfl, pw_uX7⟩
theorem fp_X7_19 : pw_FP RX7 19 7 1 .int := ⟨RX7, TX7, 3, tyX7, rfl, by decide, pw_tab 277 (by decide +kernel) rfl, pw_uX7, tyX7_ok, nmX7, rfl, by decide +kernel⟩
theorem fl_X10_303 : pw_FL RX10 303 7 1 := ⟨RX7, TX7, 3, rfl, by decide, pw_tab 278 (by decide +kernel) rfl, pw_uX7⟩
theorem fp_X10_303 : pw_FP RX10 303 7 1 .int := ⟨RX7, TX7, 3, tyX7, rfl, by decide, pw_tab 278 (by decide +kernel) rfl, pw_uX7, tyX7_ok, nmX7, rfl, by decide +kernel⟩
theorem fl_X7_15 : pw_FL RX7 15 7 2 := ⟨RX7, TX7, 3, rfl, by decide, pw_tab 279 (by decide +kernel) rfl, pw_uX7⟩
theorem fp_X7_15 : pw_FP RX7 15 7 2 .int := ⟨RX7, TX7, 3, tyX7, rfl, by decide, pw_tab 279 (by decide +kernel) rfl, pw_uX7, tyX7_ok, nmX7, rfl, by decide +kernel⟩
theorem fl_X10_297 : pw_FL RX10 297 7 2 := ⟨RX7, TX7, 3, rfl, by decide, pw_tab 280 (by decide +kernel) rfl, pw_uX7⟩
theorem fp_X10_297 : pw_FP RX10 297 7 2 .int := ⟨RX7, TX7, 3, tyX7, rfl, by decide, pw_tab 280 (by decide +kernel) rfl, pw_uX7, tyX7_ok, nmX7, rfl, by decide +kernel⟩
theorem fl_X10_10 : pw_FL RX10 10 10 0 := ⟨RX10, TX10, 10, rfl, by decide, pw_tab 288 (by decide +kernel) rfl, pw_uX10⟩
theorem fl_X10_19 : pw_FL RX10 19 10 1 := ⟨RX10, TX10, 10, rfl, by decide, pw_tab 289 (by decide +kernel) rfl, pw_uX10⟩
theorem fl_X10_26 : pw_FL RX10 26 10 2 := ⟨RX10, TX10, 10, rfl, by decide, pw_tab 290 (by decide +kernel) rfl, pw_uX10⟩
theorem fl_X10_35 : pw_FL RX10 35 10 3 := ⟨RX10, TX10, 10, rfl, by decide, pw_tab 291 (by decide +kernel) rfl, pw_uX10⟩
theorem fl_X10_44 : pw_FL RX10 44 10 4 := ⟨RX10, TX10, 10, rfl, by decide, pw_tab 292 (by decide +kernel) rfl, pw_uX10⟩
theorem fl_X10_51 : pw_FL RX10 51 10 5 := ⟨RX10, TX10, 10, rfl, by decide, pw_tab 293 (by decide +kernel) rfl, pw_uX10⟩
theorem fl_X10_58 : pw_FL RX10 58 10 6 := ⟨RX10, TX10, 10, rfl, by decide, pw_tab 294 (by decide +kernel) rfl, pw_uX10⟩
theorem fl_X10_65 : pw_FL RX10 65 10 7 := ⟨RX10, TX10, 10, rfl, by decide, pw_tab 295 (by decide +kernel) rfl, pw_uX10⟩
theorem fl_X10_72 : pw_FL RX10 72 10 8 := ⟨RX10, TX10, 10, rfl, by decide, pw_tab 296 (by decide +kernel) rfl, pw_uX10⟩
theorem fl_X10_78 : pw_FL RX10 78 10 9 := ⟨RX10, TX10, 10, rfl, by decide, pw_tab 297 (by decide +kernel) rfl, pw_uX10⟩
theorem mv_L_13 : pw_MV RL 13 10 m_X10_routine 1 := ⟨⟨TX10, 10, rfl⟩, pw_tab 319 (by decide +kernel) rfl, pw_tab 320 (by decide +kernel) rfl, pw_tab 321 (by decide +kernel) rfl, mb_X10_routine⟩
theorem ms_X10_83 : pw_MS RX10 83 m_X10_within 3 := ⟨pw_tab 323 (by decide +kernel) rfl, pw_tab 324 (by decide +kernel) rfl, mb_X10_within⟩
theorem mv_X10_91 : pw_MV RX10 91 2 m_X2_outdate 0 := ⟨⟨TX2, 11, rfl⟩, pw_tab 326 (by decide +kernel) rfl, pw_tab 327 (by decide +kernel) rfl, pw_tab 328 (by decide +kernel) rfl, mb_X2_outdate⟩
theorem mv_X10_94 : pw_MV RX10 94 5 m_X5_add 1 := ⟨⟨TX5, 3, rfl⟩, pw_tab 330 (by decide +kernel) rfl, pw_tab 331 (by decide +kernel) rfl, pw_tab 332 (by decide +kernel) rfl, mb_X5_add⟩
theorem mv_L_18 : pw_MV RL 18 10 m_X10_frame 2 := ⟨⟨TX10, 10, rfl⟩, pw_tab 334 (by decide +kernel) rfl, pw_tab 335 (by decide +kernel) rfl, pw_tab 336 (by decide +kernel) rfl, mb_X10_frame⟩
theorem mv_X10_98 : pw_MV RX10 98 10 m_X10_isRoutine 1 := ⟨⟨TX10, 10, rfl⟩, pw_tab 338 (by decide +kernel) rfl, pw_tab 340 (by decide +kernel) rfl, pw_sel 0 (by decide +kernel) rfl, mb_X10_isRoutine⟩
theorem mv_L_23 : pw_MV RL 23 10 m_X10_turns 2 := ⟨⟨TX10, 10, rfl⟩, pw_tab 342 (by decide +kernel) rfl, pw_tab 343 (by decide +kernel) rfl, pw_tab 344 (by decide +kernel) rfl, mb_X10_turns⟩
theorem mv_L_27 : pw_MV RL 27 10 m_X10_call 4 := ⟨⟨TX10, 10, rfl⟩, pw_tab 346 (by decide +kernel) rfl, pw_tab 347 (by decide +kernel) rfl, pw_tab 348 (by decide +kernel) rfl, mb_X10_call⟩
theorem ms_X10_109 : pw_MS RX10 109 m_X10_kindOf 2 := ⟨pw_tab 350 (by decide +kernel) rfl, pw_tab 351 (by decide +kernel) rfl, mb_X10_kindOf⟩
theorem mv_X10_113 : pw_MV RX10 113 10 m_X10_refusalOfCall 3 := ⟨⟨TX10, 10, rfl⟩, pw_tab 353 (by decide +kernel) rfl, pw_tab 355 (by decide +kernel) rfl, pw_sel 1 (by decide +kernel) rfl, mb_X10_refusalOfCall⟩
theorem mv_X10_121 : pw_MV RX10 121 10 m_X10_canBeCall 3 := ⟨⟨TX10, 10, rfl⟩, pw_tab 357 (by decide +kernel) rfl, pw_tab 359 (by decide +kernel) rfl, pw_sel 2 (by decide +kernel) rfl, mb_X10_canBeCall⟩
theorem ms_X10_130 : pw_MS RX10 130 m_X10_isPointer 1 := ⟨pw_tab 361 (by decide +kernel) rfl, pw_tab 362 (by decide +kernel) rfl, mb_X10_isPointer⟩
theorem mv_X10_124 : pw_MV RX10 124 0 m_X0_has 3 := ⟨⟨TX0, 2, rfl⟩, pw_tab 364 (by decide +kernel) rfl, pw_tab 365 (by decide +kernel) rfl, pw_tab 366 (by decide +kernel) rfl, mb_X0_has⟩
theorem mn_X0_16 : pw_MN RX0 16 m_X10_holds 2 := ⟨by decide +kernel, pw_tab 369 (by decide +kernel) rfl, mb_X10_holds⟩
theorem mv_X10_117 : pw_MV RX10 117 0 m_X0_add 3 := ⟨⟨TX0, 2, rfl⟩, pw_tab 371 (by decide +kernel) rfl, pw_tab 372 (by decide +kernel) rfl, pw_tab 373 (by decide +kernel) rfl, mb_X0_add⟩
theorem mv_L_32 : pw_MV RL 32 10 m_X10_cut 4 := ⟨⟨TX10, 10, rfl⟩, pw_tab 375 (by decide +kernel) rfl, pw_tab 376 (by decide +kernel) rfl, pw_tab 377 (by decide +kernel) rfl, mb_X10_cut⟩
theorem mv_X10_127 : pw_MV RX10 127 0 m_X0_remove 3 := ⟨⟨TX0, 2, rfl⟩, pw_tab 379 (by decide +kernel) rfl, pw_tab 380 (by decide +kernel) rfl, pw_tab 381 (by decide +kernel) rfl, mb_X0_remove⟩
theorem mv_L_36 : pw_MV RL 36 10 m_X10_take 2 := ⟨⟨TX10, 10, rfl⟩, pw_tab 383 (by decide +kernel) rfl, pw_tab 384 (by decide +kernel) rfl, pw_tab 385 (by decide +kernel) rfl, mb_X10_take⟩
theorem ms_X10_136 : pw_MS RX10 136 m_X10_holds 2 := ⟨pw_tab 387 (by decide +kernel) rfl, pw_tab 369 (by decide +kernel) rfl, mb_X10_holds⟩
theorem mv_X10_140 : pw_MV RX10 140 4 m_X4_addTaken 2 := ⟨⟨TX4, 3, rfl⟩, pw_tab 388 (by decide +kernel) rfl, pw_tab 389 (by decide +kernel) rfl, pw_tab 390 (by decide +kernel) rfl, mb_X4_addTaken⟩
theorem mv_X4_21 : pw_MV RX4 21 4 m_X4_spreadGoals 0 := ⟨⟨TX4, 3, rfl⟩, pw_tab 392 (by decide +kernel) rfl, pw_tab 394 (by decide +kernel) rfl, pw_sel 3 (by decide +kernel) rfl, mb_X4_spreadGoals⟩
theorem ms_X4_24 : pw_MS RX4 24 m_X4_unionOf 2 := ⟨pw_tab 396 (by decide +kernel) rfl, pw_tab 397 (by decide +kernel) rfl, mb_X4_unionOf⟩
theorem mn_X4_28 : pw_MN RX4 28 m_X10_holds 2 := ⟨by decide +kernel, pw_tab 369 (by decide +kernel) rfl, mb_X10_holds⟩
theorem mv_L_40 : pw_MV RL 40 10 m_X10_flow 2 := ⟨⟨TX10, 10, rfl⟩, pw_tab 400 (by decide +kernel) rfl, pw_tab 401 (by decide +kernel) rfl, pw_tab 402 (by decide +kernel) rfl, mb_X10_flow⟩
theorem mv_X10_147 : pw_MV RX10 147 4 m_X4_addSource 2 := ⟨⟨TX4, 3, rfl⟩, pw_tab 404 (by decide +kernel) rfl, pw_tab 405 (by decide +kernel) rfl, pw_tab 406 (by decide +kernel) rfl, mb_X4_addSource⟩
theorem mv_L_44 : pw_MV RL 44 10 m_X10_goals 1 := ⟨⟨TX10, 10, rfl⟩, pw_tab 408 (by decide +kernel) rfl, pw_tab 409 (by decide +kernel) rfl, pw_tab 410 (by decide +kernel) rfl, mb_X10_goals⟩
theorem mv_L_48 : pw_MV RL 48 10 m_X10_about 2 := ⟨⟨TX10, 10, rfl⟩, pw_tab 412 (by decide +kernel) rfl, pw_tab 413 (by decide +kernel) rfl, pw_tab 414 (by decide +kernel) rfl, mb_X10_about⟩
theorem mv_X10_153 : pw_MV RX10 153 2 m_X2_refresh 0 := ⟨⟨TX2, 11, rfl⟩, pw_tab 416 (by decide +kernel) rfl, pw_tab 417 (by decide +kernel) rfl, pw_tab 418 (by decide +kernel) rfl, mb_X2_refresh⟩
theorem mv_X2_43 : pw_MV RX2 43 2 m_X2_drawCalls 0 := ⟨⟨TX2, 11, rfl⟩, pw_tab 420 (by decide +kernel) rfl, pw_tab 422 (by decide +kernel) rfl, pw_sel 4 (by decide +kernel) rfl, mb_X2_drawCalls⟩
theorem ms_X2_85 : pw_MS RX2 85 m_X4_unionOf 2 := ⟨pw_tab 424 (by decide +kernel) rfl, pw_tab 397 (by decide +kernel) rfl, mb_X4_unionOf⟩
theorem mv_X2_46 : pw_MV RX2 46 2 m_X2_closeReach 0 := ⟨⟨TX2, 11, rfl⟩, pw_tab 425 (by decide +kernel) rfl, pw_tab 427 (by decide +kernel) rfl, pw_sel 5 (by decide +kernel) rfl, mb_X2_closeReach⟩
theorem mn_X2_64 : pw_MN RX2 64 m_X10_holds 2 := ⟨by decide +kernel, pw_tab 369 (by decide +kernel) rfl, mb_X10_holds⟩
theorem mv_X2_49 : pw_MV RX2 49 2 m_X2_gatherTogether 0 := ⟨⟨TX2, 11, rfl⟩, pw_tab 430 (by decide +kernel) rfl, pw_tab 432 (by decide +kernel) rfl, pw_sel 6 (by decide +kernel) rfl, mb_X2_gatherTogether⟩
theorem mv_X2_52 : pw_MV RX2 52 2 m_X2_markRings 0 := ⟨⟨TX2, 11, rfl⟩, pw_tab 434 (by decide +kernel) rfl, pw_tab 436 (by decide +kernel) rfl, pw_sel 7 (by decide +kernel) rfl, mb_X2_markRings⟩
theorem mv_X2_55 : pw_MV RX2 55 2 m_X2_orderLeaders 0 := ⟨⟨TX2, 11, rfl⟩, pw_tab 438 (by decide +kernel) rfl, pw_tab 440 (by decide +kernel) rfl, pw_sel 8 (by decide +kernel) rfl, mb_X2_orderLeaders⟩
theorem mn_X2_89 : pw_MN RX2 89 m_X10_leastOf 1 := ⟨by decide +kernel, pw_tab 443 (by decide +kernel) rfl, mb_X10_leastOf⟩
theorem mv_X2_93 : pw_MV RX2 93 2 m_X2_selfAndReached 1 := ⟨⟨TX2, 11, rfl⟩, pw_tab 445 (by decide +kernel) rfl, pw_tab 446 (by decide +kernel) rfl, pw_tab 447 (by decide +kernel) rfl, mb_X2_selfAndReached⟩
theorem ms_X2_96 : pw_MS RX2 96 m_J6_bitCount_0f7a4 1 := ⟨pw_tab 449 (by decide +kernel) rfl, pw_tab 450 (by decide +kernel) rfl, mb_J6_bitCount_0f7a4⟩
theorem k_J6_265 : Jvm.Cond.constant RJ6 265 (1431655765) ∈ pw_ws := pw_tab 452 (by decide +kernel) rfl
theorem k_J6_266 : Jvm.Cond.constant RJ6 266 (858993459) ∈ pw_ws := pw_tab 453 (by decide +kernel) rfl
theorem k_J6_267 : Jvm.Cond.constant RJ6 267 (252645135) ∈ pw_ws := pw_tab 454 (by decide +kernel) rfl
theorem ms_X10_162 : pw_MS RX10 162 m_X10_leastOf 1 := ⟨pw_tab 455 (by decide +kernel) rfl, pw_tab 443 (by decide +kernel) rfl, mb_X10_leastOf⟩
theorem ms_X10_168 : pw_MS RX10 168 m_J6_bitCount_0f7a4 1 := ⟨pw_tab 456 (by decide +kernel) rfl, pw_tab 450 (by decide +kernel) rfl, mb_J6_bitCount_0f7a4⟩
theorem mv_X10_173 : pw_MV RX10 173 2 m_X2_howManyReach 1 := ⟨⟨TX2, 11, rfl⟩, pw_tab 457 (by decide +kernel) rfl, pw_tab 458 (by decide +kernel) rfl, pw_tab 459 (by decide +kernel) rfl, mb_X2_howManyReach⟩
theorem mv_L_52 : pw_MV RL 52 10 m_X10_depth 1 := ⟨⟨TX10, 10, rfl⟩, pw_tab 461 (by decide +kernel) rfl, pw_tab 462 (by decide +kernel) rfl, pw_tab 463 (by decide +kernel) rfl, mb_X10_depth⟩
theorem mv_X10_176 : pw_MV RX10 176 1 m_X1_measure 1 := ⟨⟨TX1, 4, rfl⟩, pw_tab 465 (by decide +kernel) rfl, pw_tab 466 (by decide +kernel) rfl, pw_tab 467 (by decide +kernel) rfl, mb_X1_measure⟩
theorem mv_X1_27 : pw_MV RX1 27 2 m_X2_refresh 0 := ⟨⟨TX2, 11, rfl⟩, pw_tab 469 (by decide +kernel) rfl, pw_tab 417 (by decide +kernel) rfl, pw_tab 418 (by decide +kernel) rfl, mb_X2_refresh⟩
theorem mn_X1_44 : pw_MN RX1 44 m_X10_holds 2 := ⟨by decide +kernel, pw_tab 369 (by decide +kernel) rfl, mb_X10_holds⟩
theorem mv_X1_48 : pw_MV RX1 48 1 m_X1_depthOfRing 1 := ⟨⟨TX1, 4, rfl⟩, pw_tab 471 (by decide +kernel) rfl, pw_tab 473 (by decide +kernel) rfl, pw_sel 9 (by decide +kernel) rfl, mb_X1_depthOfRing⟩
theorem mv_X1_69 : pw_MV RX1 69 1 m_X1_frameOf 1 := ⟨⟨TX1, 4, rfl⟩, pw_tab 475 (by decide +kernel) rfl, pw_tab 477 (by decide +kernel) rfl, pw_sel 10 (by decide +kernel) rfl, mb_X1_frameOf⟩
theorem mv_X1_86 : pw_MV RX1 86 1 m_X1_greatestOf 1 := ⟨⟨TX1, 4, rfl⟩, pw_tab 479 (by decide +kernel) rfl, pw_tab 481 (by decide +kernel) rfl, pw_sel 11 (by decide +kernel) rfl, mb_X1_greatestOf⟩
theorem mn_X1_89 : pw_MN RX1 89 m_X10_greater 2 := ⟨by decide +kernel, pw_tab 484 (by decide +kernel) rfl, mb_X10_greater⟩
theorem mn_X1_92 : pw_MN RX1 92 m_X10_plus 2 := ⟨by decide +kernel, pw_tab 487 (by decide +kernel) rfl, mb_X10_plus⟩
theorem mv_X1_52 : pw_MV RX1 52 1 m_X1_depthOfTails 1 := ⟨⟨TX1, 4, rfl⟩, pw_tab 489 (by decide +kernel) rfl, pw_tab 491 (by decide +kernel) rfl, pw_sel 12 (by decide +kernel) rfl, mb_X1_depthOfTails⟩
theorem mv_X1_59 : pw_MV RX1 59 1 m_X1_depthOfItself 1 := ⟨⟨TX1, 4, rfl⟩, pw_tab 493 (by decide +kernel) rfl, pw_tab 495 (by decide +kernel) rfl, pw_sel 13 (by decide +kernel) rfl, mb_X1_depthOfItself⟩
theorem mv_X1_55 : pw_MV RX1 55 1 m_X1_spread 2 := ⟨⟨TX1, 4, rfl⟩, pw_tab 497 (by decide +kernel) rfl, pw_tab 499 (by decide +kernel) rfl, pw_sel 14 (by decide +kernel) rfl, mb_X1_spread⟩
theorem mv_L_56 : pw_MV RL 56 10 m_X10_way 2 := ⟨⟨TX10, 10, rfl⟩, pw_tab 501 (by decide +kernel) rfl, pw_tab 502 (by decide +kernel) rfl, pw_tab 503 (by decide +kernel) rfl, mb_X10_way⟩
theorem mv_X10_183 : pw_MV RX10 183 2 m_X2_selfAndReached 1 := ⟨⟨TX2, 11, rfl⟩, pw_tab 505 (by decide +kernel) rfl, pw_tab 446 (by decide +kernel) rfl, pw_tab 447 (by decide +kernel) rfl, mb_X2_selfAndReached⟩
theorem ms_X10_186 : pw_MS RX10 186 m_J9_min_7cf53 2 := ⟨pw_tab 506 (by decide +kernel) rfl, pw_tab 507 (by decide +kernel) rfl, mb_J9_min_7cf53⟩
theorem mv_X10_192 : pw_MV RX10 192 1 m_X1_nextOnWay 1 := ⟨⟨TX1, 4, rfl⟩, pw_tab 509 (by decide +kernel) rfl, pw_tab 510 (by decide +kernel) rfl, pw_tab 511 (by decide +kernel) rfl, mb_X1_nextOnWay⟩
theorem mv_X1_62 : pw_MV RX1 62 1 m_X1_leastThatTells 2 := ⟨⟨TX1, 4, rfl⟩, pw_tab 513 (by decide +kernel) rfl, pw_tab 515 (by decide +kernel) rfl, pw_sel 15 (by decide +kernel) rfl, mb_X1_leastThatTells⟩
theorem mv_X1_72 : pw_MV RX1 72 1 m_X1_leastThatHas 2 := ⟨⟨TX1, 4, rfl⟩, pw_tab 517 (by decide +kernel) rfl, pw_tab 519 (by decide +kernel) rfl, pw_sel 16 (by decide +kernel) rfl, mb_X1_leastThatHas⟩
theorem mv_L_60 : pw_MV RL 60 10 m_X10_endless 1 := ⟨⟨TX10, 10, rfl⟩, pw_tab 521 (by decide +kernel) rfl, pw_tab 522 (by decide +kernel) rfl, pw_tab 523 (by decide +kernel) rfl, mb_X10_endless⟩
theorem mv_X10_195 : pw_MV RX10 195 5 m_X5_withoutTurns 0 := ⟨⟨TX5, 3, rfl⟩, pw_tab 525 (by decide +kernel) rfl, pw_tab 526 (by decide +kernel) rfl, pw_tab 527 (by decide +kernel) rfl, mb_X5_withoutTurns⟩
theorem mv_L_64 : pw_MV RL 64 10 m_X10_interrupt 3 := ⟨⟨TX10, 10, rfl⟩, pw_tab 529 (by decide +kernel) rfl, pw_tab 530 (by decide +kernel) rfl, pw_tab 531 (by decide +kernel) rfl, mb_X10_interrupt⟩
theorem mv_X10_200 : pw_MV RX10 200 3 m_X3_add 3 := ⟨⟨TX3, 4, rfl⟩, pw_tab 533 (by decide +kernel) rfl, pw_tab 534 (by decide +kernel) rfl, pw_tab 535 (by decide +kernel) rfl, mb_X3_add⟩
theorem mv_L_69 : pw_MV RL 69 10 m_X10_task 3 := ⟨⟨TX10, 10, rfl⟩, pw_tab 537 (by decide +kernel) rfl, pw_tab 538 (by decide +kernel) rfl, pw_tab 539 (by decide +kernel) rfl, mb_X10_task⟩
theorem mv_X10_203 : pw_MV RX10 203 8 m_X8_add 3 := ⟨⟨TX8, 5, rfl⟩, pw_tab 541 (by decide +kernel) rfl, pw_tab 542 (by decide +kernel) rfl, pw_tab 543 (by decide +kernel) rfl, mb_X8_add⟩
theorem mv_L_73 : pw_MV RL 73 10 m_X10_total 2 := ⟨⟨TX10, 10, rfl⟩, pw_tab 545 (by decide +kernel) rfl, pw_tab 546 (by decide +kernel) rfl, pw_tab 547 (by decide +kernel) rfl, mb_X10_total⟩
theorem mv_X10_204 : pw_MV RX10 204 10 m_X10_isTask 1 := ⟨⟨TX10, 10, rfl⟩, pw_tab 549 (by decide +kernel) rfl, pw_tab 551 (by decide +kernel) rfl, pw_sel 17 (by decide +kernel) rfl, mb_X10_isTask⟩
theorem mv_X10_212 : pw_MV RX10 212 3 m_X3_topAbove 2 := ⟨⟨TX3, 4, rfl⟩, pw_tab 553 (by decide +kernel) rfl, pw_tab 554 (by decide +kernel) rfl, pw_tab 555 (by decide +kernel) rfl, mb_X3_topAbove⟩
theorem mv_X3_25 : pw_MV RX3 25 3 m_X3_greatestAt 2 := ⟨⟨TX3, 4, rfl⟩, pw_tab 557 (by decide +kernel) rfl, pw_tab 559 (by decide +kernel) rfl, pw_sel 18 (by decide +kernel) rfl, mb_X3_greatestAt⟩
theorem mn_X3_29 : pw_MN RX3 29 m_X10_plus 2 := ⟨by decide +kernel, pw_tab 487 (by decide +kernel) rfl, mb_X10_plus⟩
theorem mn_X3_33 : pw_MN RX3 33 m_X10_greater 2 := ⟨by decide +kernel, pw_tab 484 (by decide +kernel) rfl, mb_X10_greater⟩
theorem mv_X10_216 : pw_MV RX10 216 10 m_X10_totalAsMeasured 1 := ⟨⟨TX10, 10, rfl⟩, pw_tab 563 (by decide +kernel) rfl, pw_tab 565 (by decide +kernel) rfl, pw_sel 19 (by decide +kernel) rfl, mb_X10_totalAsMeasured⟩
theorem ms_X10_323 : pw_MS RX10 323 m_X10_plus 2 := ⟨pw_tab 567 (by decide +kernel) rfl, pw_tab 487 (by decide +kernel) rfl, mb_X10_plus⟩
theorem mv_X10_219 : pw_MV RX10 219 10 m_X10_roomAsMeasured 1 := ⟨⟨TX10, 10, rfl⟩, pw_tab 568 (by decide +kernel) rfl, pw_tab 570 (by decide +kernel) rfl, pw_sel 20 (by decide +kernel) rfl, mb_X10_roomAsMeasured⟩
theorem mv_L_77 : pw_MV RL 77 10 m_X10_apart 3 := ⟨⟨TX10, 10, rfl⟩, pw_tab 572 (by decide +kernel) rfl, pw_tab 573 (by decide +kernel) rfl, pw_tab 574 (by decide +kernel) rfl, mb_X10_apart⟩
theorem mv_X10_225 : pw_MV RX10 225 8 m_X8_setApart 3 := ⟨⟨TX8, 5, rfl⟩, pw_tab 576 (by decide +kernel) rfl, pw_tab 577 (by decide +kernel) rfl, pw_tab 578 (by decide +kernel) rfl, mb_X8_setApart⟩
theorem mv_L_82 : pw_MV RL 82 10 m_X10_shared 0 := ⟨⟨TX10, 10, rfl⟩, pw_tab 580 (by decide +kernel) rfl, pw_tab 581 (by decide +kernel) rfl, pw_tab 582 (by decide +kernel) rfl, mb_X10_shared⟩
theorem mv_X10_229 : pw_MV RX10 229 10 m_X10_shareRooms 0 := ⟨⟨TX10, 10, rfl⟩, pw_tab 584 (by decide +kernel) rfl, pw_tab 586 (by decide +kernel) rfl, pw_sel 21 (by decide +kernel) rfl, mb_X10_shareRooms⟩
theorem mv_X10_332 : pw_MV RX10 332 6 m_X6_divide 1 := ⟨⟨TX6, 6, rfl⟩, pw_tab 588 (by decide +kernel) rfl, pw_tab 589 (by decide +kernel) rfl, pw_tab 590 (by decide +kernel) rfl, mb_X6_divide⟩
theorem k_X6_29 : Jvm.Cond.constant RX6 29 (2147483647) ∈ pw_ws := pw_tab 592 (by decide +kernel) rfl
theorem mv_X6_34 : pw_MV RX6 34 6 m_X6_place 4 := ⟨⟨TX6, 6, rfl⟩, pw_tab 593 (by decide +kernel) rfl, pw_tab 595 (by decide +kernel) rfl, pw_sel 22 (by decide +kernel) rfl, mb_X6_place⟩
theorem mv_X6_43 : pw_MV RX6 43 6 m_X6_keep 1 := ⟨⟨TX6, 6, rfl⟩, pw_tab 597 (by decide +kernel) rfl, pw_tab 599 (by decide +kernel) rfl, pw_sel 23 (by decide +kernel) rfl, mb_X6_keep⟩
theorem ms_X6_50 : pw_MS RX6 50 m_J9_max_7cf53 2 := ⟨pw_tab 601 (by decide +kernel) rfl, pw_tab 602 (by decide +kernel) rfl, mb_J9_max_7cf53⟩
theorem mv_L_87 : pw_MV RL 87 10 m_X10_group 1 := ⟨⟨TX10, 10, rfl⟩, pw_tab 604 (by decide +kernel) rfl, pw_tab 605 (by decide +kernel) rfl, pw_tab 606 (by decide +kernel) rfl, mb_X10_group⟩
theorem mv_L_91 : pw_MV RL 91 10 m_X10_saves 2 := ⟨⟨TX10, 10, rfl⟩, pw_tab 608 (by decide +kernel) rfl, pw_tab 609 (by decide +kernel) rfl, pw_tab 610 (by decide +kernel) rfl, mb_X10_saves⟩
theorem mv_X10_235 : pw_MV RX10 235 10 m_X10_totalWithout 2 := ⟨⟨TX10, 10, rfl⟩, pw_tab 612 (by decide +kernel) rfl, pw_tab 614 (by decide +kernel) rfl, pw_sel 24 (by decide +kernel) rfl, mb_X10_totalWithout⟩
theorem mv_L_95 : pw_MV RL 95 10 m_X10_best 1 := ⟨⟨TX10, 10, rfl⟩, pw_tab 616 (by decide +kernel) rfl, pw_tab 617 (by decide +kernel) rfl, pw_tab 618 (by decide +kernel) rfl, mb_X10_best⟩
theorem mv_L_99 : pw_MV RL 99 10 m_X10_run 1 := ⟨⟨TX10, 10, rfl⟩, pw_tab 620 (by decide +kernel) rfl, pw_tab 621 (by decide +kernel) rfl, pw_tab 622 (by decide +kernel) rfl, mb_X10_run⟩
theorem mv_X10_238 : pw_MV RX10 238 9 m_X9_begin 1 := ⟨⟨TX9, 8, rfl⟩, pw_tab 624 (by decide +kernel) rfl, pw_tab 625 (by decide +kernel) rfl, pw_tab 626 (by decide +kernel) rfl, mb_X9_begin⟩
theorem mv_X10_241 : pw_MV RX10 241 9 m_X9_push 2 := ⟨⟨TX9, 8, rfl⟩, pw_tab 628 (by decide +kernel) rfl, pw_tab 629 (by decide +kernel) rfl, pw_tab 630 (by decide +kernel) rfl, mb_X9_push⟩
theorem ms_X9_37 : pw_MS RX9 37 m_J9_max_7cf53 2 := ⟨pw_tab 632 (by decide +kernel) rfl, pw_tab 602 (by decide +kernel) rfl, mb_J9_max_7cf53⟩
theorem mv_L_103 : pw_MV RL 103 10 m_X10_enter 1 := ⟨⟨TX10, 10, rfl⟩, pw_tab 633 (by decide +kernel) rfl, pw_tab 634 (by decide +kernel) rfl, pw_tab 635 (by decide +kernel) rfl, mb_X10_enter⟩
theorem mv_X10_253 : pw_MV RX10 253 9 m_X9_onTop 0 := ⟨⟨TX9, 8, rfl⟩, pw_tab 637 (by decide +kernel) rfl, pw_tab 638 (by decide +kernel) rfl, pw_tab 639 (by decide +kernel) rfl, mb_X9_onTop⟩
theorem mv_X10_256 : pw_MV RX10 256 9 m_X9_markStep 1 := ⟨⟨TX9, 8, rfl⟩, pw_tab 641 (by decide +kernel) rfl, pw_tab 642 (by decide +kernel) rfl, pw_tab 643 (by decide +kernel) rfl, mb_X9_markStep⟩
theorem mv_X10_260 : pw_MV RX10 260 10 m_X10_pushMarked 1 := ⟨⟨TX10, 10, rfl⟩, pw_tab 645 (by decide +kernel) rfl, pw_tab 647 (by decide +kernel) rfl, pw_sel 25 (by decide +kernel) rfl, mb_X10_pushMarked⟩
theorem mv_X10_336 : pw_MV RX10 336 9 m_X9_howOften 1 := ⟨⟨TX9, 8, rfl⟩, pw_tab 649 (by decide +kernel) rfl, pw_tab 650 (by decide +kernel) rfl, pw_tab 651 (by decide +kernel) rfl, mb_X9_howOften⟩
theorem mv_L_107 : pw_MV RL 107 10 m_X10_over 1 := ⟨⟨TX10, 10, rfl⟩, pw_tab 653 (by decide +kernel) rfl, pw_tab 654 (by decide +kernel) rfl, pw_tab 655 (by decide +kernel) rfl, mb_X10_over⟩
theorem mv_X10_266 : pw_MV RX10 266 9 m_X9_pop 0 := ⟨⟨TX9, 8, rfl⟩, pw_tab 657 (by decide +kernel) rfl, pw_tab 658 (by decide +kernel) rfl, pw_tab 659 (by decide +kernel) rfl, mb_X9_pop⟩
theorem mv_L_111 : pw_MV RL 111 10 m_X10_leave 0 := ⟨⟨TX10, 10, rfl⟩, pw_tab 661 (by decide +kernel) rfl, pw_tab 662 (by decide +kernel) rfl, pw_tab 663 (by decide +kernel) rfl, mb_X10_leave⟩
theorem mv_L_115 : pw_MV RL 115 10 m_X10_ran 1 := ⟨⟨TX10, 10, rfl⟩, pw_tab 665 (by decide +kernel) rfl, pw_tab 666 (by decide +kernel) rfl, pw_tab 667 (by decide +kernel) rfl, mb_X10_ran⟩
theorem mv_X10_281 : pw_MV RX10 281 10 m_X10_stayedWithinDepth 0 := ⟨⟨TX10, 10, rfl⟩, pw_tab 669 (by decide +kernel) rfl, pw_tab 671 (by decide +kernel) rfl, pw_sel 26 (by decide +kernel) rfl, mb_X10_stayedWithinDepth⟩
theorem mv_L_119 : pw_MV RL 119 10 m_X10_sheet 3 := ⟨⟨TX10, 10, rfl⟩, pw_tab 673 (by decide +kernel) rfl, pw_tab 674 (by decide +kernel) rfl, pw_tab 675 (by decide +kernel) rfl, mb_X10_sheet⟩
theorem ms_X10_285 : pw_MS RX10 285 m_X10_isSheet 1 := ⟨pw_tab 677 (by decide +kernel) rfl, pw_tab 678 (by decide +kernel) rfl, mb_X10_isSheet⟩
theorem ms_X10_288 : pw_MS RX10 288 m_X10_isLane 1 := ⟨pw_tab 680 (by decide +kernel) rfl, pw_tab 681 (by decide +kernel) rfl, mb_X10_isLane⟩
theorem mv_X10_291 : pw_MV RX10 291 7 m_X7_makeNew 2 := ⟨⟨TX7, 3, rfl⟩, pw_tab 683 (by decide +kernel) rfl, pw_tab 684 (by decide +kernel) rfl, pw_tab 685 (by decide +kernel) rfl, mb_X7_makeNew⟩
theorem mv_L_123 : pw_MV RL 123 10 m_X10_lay 3 := ⟨⟨TX10, 10, rfl⟩, pw_tab 687 (by decide +kernel) rfl, pw_tab 688 (by decide +kernel) rfl, pw_tab 689 (by decide +kernel) rfl, mb_X10_lay⟩
theorem mv_X10_294 : pw_MV RX10 294 7 m_X7_isNothing 0 := ⟨⟨TX7, 3, rfl⟩, pw_tab 691 (by decide +kernel) rfl, pw_tab 692 (by decide +kernel) rfl, pw_tab 693 (by decide +kernel) rfl, mb_X7_isNothing⟩
theorem mv_X10_300 : pw_MV RX10 300 7 m_X7_put 2 := ⟨⟨TX7, 3, rfl⟩, pw_tab 695 (by decide +kernel) rfl, pw_tab 696 (by decide +kernel) rfl, pw_tab 697 (by decide +kernel) rfl, mb_X7_put⟩
theorem mv_L_127 : pw_MV RL 127 10 m_X10_scan 4 := ⟨⟨TX10, 10, rfl⟩, pw_tab 699 (by decide +kernel) rfl, pw_tab 700 (by decide +kernel) rfl, pw_tab 701 (by decide +kernel) rfl, mb_X10_scan⟩
theorem mv_X10_306 : pw_MV RX10 306 10 m_X10_addFromSheet 3 := ⟨⟨TX10, 10, rfl⟩, pw_tab 703 (by decide +kernel) rfl, pw_tab 705 (by decide +kernel) rfl, pw_sel 27 (by decide +kernel) rfl, mb_X10_addFromSheet⟩
theorem mv_X10_317 : pw_MV RX10 317 7 m_X7_holdsCall 2 := ⟨⟨TX7, 3, rfl⟩, pw_tab 707 (by decide +kernel) rfl, pw_tab 708 (by decide +kernel) rfl, pw_tab 709 (by decide +kernel) rfl, mb_X7_holdsCall⟩
theorem mv_X10_310 : pw_MV RX10 310 10 m_X10_removeFromSheet 3 := ⟨⟨TX10, 10, rfl⟩, pw_tab 711 (by decide +kernel) rfl, pw_tab 713 (by decide +kernel) rfl, pw_sel 28 (by decide +kernel) rfl, mb_X10_removeFromSheet⟩
theorem mv_L_132 : pw_MV RL 132 10 m_X10_count 1 := ⟨⟨TX10, 10, rfl⟩, pw_tab 715 (by decide +kernel) rfl, pw_tab 716 (by decide +kernel) rfl, pw_tab 717 (by decide +kernel) rfl, mb_X10_count⟩
theorem mv_X10_314 : pw_MV RX10 314 2 m_X2_howManyRings 0 := ⟨⟨TX2, 11, rfl⟩, pw_tab 719 (by decide +kernel) rfl, pw_tab 720 (by decide +kernel) rfl, pw_tab 721 (by decide +kernel) rfl, mb_X2_howManyRings⟩
theorem fl_X11_91 : pw_FL RX11 91 11 0 := ⟨RX11, TX11, 39, rfl, by decide, pw_tab 729 (by decide +kernel) rfl, pw_uX11⟩
theorem fp_X11_91 : pw_FP RX11 91 11 0 .int := ⟨RX11, TX11, 39, tyX11, rfl, by decide, pw_tab 729 (by decide +kernel) rfl, pw_uX11, tyX11_ok, nmX11, rfl, by decide +kernel⟩
theorem fl_X11_7 : pw_FL RX11 7 11 1 := ⟨RX11, TX11, 39, rfl, by decide, pw_tab 730 (by decide +kernel) rfl, pw_uX11⟩
theorem fl_X11_13 : pw_FL RX11 13 11 2 := ⟨RX11, TX11, 39, rfl, by decide, pw_tab 731 (by decide +kernel) rfl, pw_uX11⟩
theorem fl_X11_109 : pw_FL RX11 109 11 3 := ⟨RX11, TX11, 39, rfl, by decide, pw_tab 732 (by decide +kernel) rfl, pw_uX11⟩
theorem fp_X11_109 : pw_FP RX11 109 11 3 .int := ⟨RX11, TX11, 39, tyX11, rfl, by decide, pw_tab 732 (by decide +kernel) rfl, pw_uX11, tyX11_ok, nmX11, rfl, by decide +kernel⟩
theorem fl_X11_16 : pw_FL RX11 16 11 4 := ⟨RX11, TX11, 39, rfl, by decide, pw_tab 733 (by decide +kernel) rfl, pw_uX11⟩
theorem fl_X11_19 : pw_FL RX11 19 11 5 := ⟨RX11, TX11, 39, rfl, by decide, pw_tab 734 (by decide +kernel) rfl, pw_uX11⟩
theorem fl_X11_22 : pw_FL RX11 22 11 6 := ⟨RX11, TX11, 39, rfl, by decide, pw_tab 735 (by decide +kernel) rfl, pw_uX11⟩
theorem fl_X11_25 : pw_FL RX11 25 11 7 := ⟨RX11, TX11, 39, rfl, by decide, pw_tab 736 (by decide +kernel) rfl, pw_uX11⟩
theorem fl_X11_28 : pw_FL RX11 28 11 8 := ⟨RX11, TX11, 39, rfl, by decide, pw_tab 737 (by decide +kernel) rfl, pw_uX11⟩
theorem fl_X11_31 : pw_FL RX11 31 11 9 := ⟨RX11, TX11, 39, rfl, by decide, pw_tab 738 (by decide +kernel) rfl, pw_uX11⟩
theorem fl_X11_34 : pw_FL RX11 34 11 10 := ⟨RX11, TX11, 39, rfl, by decide, pw_tab 739 (by decide +kernel) rfl, pw_uX11⟩
theorem fl_X11_37 : pw_FL RX11 37 11 11 := ⟨RX11, TX11, 39, rfl, by decide, pw_tab 740 (by decide +kernel) rfl, pw_uX11⟩
theorem fl_X11_40 : pw_FL RX11 40 11 12 := ⟨RX11, TX11, 39, rfl, by decide, pw_tab 741 (by decide +kernel) rfl, pw_uX11⟩
theorem fl_X11_43 : pw_FL RX11 43 11 13 := ⟨RX11, TX11, 39, rfl, by decide, pw_tab 742 (by decide +kernel) rfl, pw_uX11⟩
theorem fl_X11_46 : pw_FL RX11 46 11 14 := ⟨RX11, TX11, 39, rfl, by decide, pw_tab 743 (by decide +kernel) rfl, pw_uX11⟩
theorem fl_X11_166 : pw_FL RX11 166 11 15 := ⟨RX11, TX11, 39, rfl, by decide, pw_tab 744 (by decide +kernel) rfl, pw_uX11⟩
theorem fp_X11_166 : pw_FP RX11 166 11 15 .int := ⟨RX11, TX11, 39, tyX11, rfl, by decide, pw_tab 744 (by decide +kernel) rfl, pw_uX11, tyX11_ok, nmX11, rfl, by decide +kernel⟩
theorem fl_X11_49 : pw_FL RX11 49 11 16 := ⟨RX11, TX11, 39, rfl, by decide, pw_tab 745 (by decide +kernel) rfl, pw_uX11⟩
theorem fl_X11_52 : pw_FL RX11 52 11 17 := ⟨RX11, TX11, 39, rfl, by decide, pw_tab 746 (by decide +kernel) rfl, pw_uX11⟩
theorem fl_X11_55 : pw_FL RX11 55 11 18 := ⟨RX11, TX11, 39, rfl, by decide, pw_tab 747 (by decide +kernel) rfl, pw_uX11⟩
theorem fl_X11_169 : pw_FL RX11 169 11 19 := ⟨RX11, TX11, 39, rfl, by decide, pw_tab 748 (by decide +kernel) rfl, pw_uX11⟩
theorem fp_X11_169 : pw_FP RX11 169 11 19 .int := ⟨RX11, TX11, 39, tyX11, rfl, by decide, pw_tab 748 (by decide +kernel) rfl, pw_uX11, tyX11_ok, nmX11, rfl, by decide +kernel⟩
theorem fl_X11_58 : pw_FL RX11 58 11 20 := ⟨RX11, TX11, 39, rfl, by decide, pw_tab 749 (by decide +kernel) rfl, pw_uX11⟩
theorem fl_X11_61 : pw_FL RX11 61 11 21 := ⟨RX11, TX11, 39, rfl, by decide, pw_tab 750 (by decide +kernel) rfl, pw_uX11⟩
theorem fl_X11_64 : pw_FL RX11 64 11 22 := ⟨RX11, TX11, 39, rfl, by decide, pw_tab 751 (by decide +kernel) rfl, pw_uX11⟩
theorem fl_X11_67 : pw_FL RX11 67 11 23 := ⟨RX11, TX11, 39, rfl, by decide, pw_tab 752 (by decide +kernel) rfl, pw_uX11⟩
theorem fl_X11_70 : pw_FL RX11 70 11 24 := ⟨RX11, TX11, 39, rfl, by decide, pw_tab 753 (by decide +kernel) rfl, pw_uX11⟩
theorem fl_X11_73 : pw_FL RX11 73 11 25 := ⟨RX11, TX11, 39, rfl, by decide, pw_tab 754 (by decide +kernel) rfl, pw_uX11⟩
theorem fl_X11_184 : pw_FL RX11 184 11 26 := ⟨RX11, TX11, 39, rfl, by decide, pw_tab 755 (by decide +kernel) rfl, pw_uX11⟩
theorem fp_X11_184 : pw_FP RX11 184 11 26 .int := ⟨RX11, TX11, 39, tyX11, rfl, by decide, pw_tab 755 (by decide +kernel) rfl, pw_uX11, tyX11_ok, nmX11, rfl, by decide +kernel⟩
theorem fl_X11_214 : pw_FL RX11 214 11 27 := ⟨RX11, TX11, 39, rfl, by decide, pw_tab 756 (by decide +kernel) rfl, pw_uX11⟩
theorem fp_X11_214 : pw_FP RX11 214 11 27 .boolean := ⟨RX11, TX11, 39, tyX11, rfl, by decide, pw_tab 756 (by decide +kernel) rfl, pw_uX11, tyX11_ok, nmX11, rfl, by decide +kernel⟩
theorem fl_X11_202 : pw_FL RX11 202 11 28 := ⟨RX11, TX11, 39, rfl, by decide, pw_tab 757 (by decide +kernel) rfl, pw_uX11⟩
theorem fp_X11_202 : pw_FP RX11 202 11 28 .int := ⟨RX11, TX11, 39, tyX11, rfl, by decide, pw_tab 757 (by decide +kernel) rfl, pw_uX11, tyX11_ok, nmX11, rfl, by decide +kernel⟩
theorem fl_X11_76 : pw_FL RX11 76 11 29 := ⟨RX11, TX11, 39, rfl, by decide, pw_tab 758 (by decide +kernel) rfl, pw_uX11⟩
theorem fl_X11_79 : pw_FL RX11 79 11 30 := ⟨RX11, TX11, 39, rfl, by decide, pw_tab 759 (by decide +kernel) rfl, pw_uX11⟩
theorem fl_X11_221 : pw_FL RX11 221 11 31 := ⟨RX11, TX11, 39, rfl, by decide, pw_tab 760 (by decide +kernel) rfl, pw_uX11⟩
theorem fp_X11_221 : pw_FP RX11 221 11 31 .int := ⟨RX11, TX11, 39, tyX11, rfl, by decide, pw_tab 760 (by decide +kernel) rfl, pw_uX11, tyX11_ok, nmX11, rfl, by decide +kernel⟩
theorem fl_X11_205 : pw_FL RX11 205 11 32 := ⟨RX11, TX11, 39, rfl, by decide, pw_tab 761 (by decide +kernel) rfl, pw_uX11⟩
theorem fp_X11_205 : pw_FP RX11 205 11 32 .int := ⟨RX11, TX11, 39, tyX11, rfl, by decide, pw_tab 761 (by decide +kernel) rfl, pw_uX11, tyX11_ok, nmX11, rfl, by decide +kernel⟩
theorem fl_X11_208 : pw_FL RX11 208 11 33 := ⟨RX11, TX11, 39, rfl, by decide, pw_tab 762 (by decide +kernel) rfl, pw_uX11⟩
theorem fp_X11_208 : pw_FP RX11 208 11 33 .int := ⟨RX11, TX11, 39, tyX11, rfl, by decide, pw_tab 762 (by decide +kernel) rfl, pw_uX11, tyX11_ok, nmX11, rfl, by decide +kernel⟩
theorem fl_X11_218 : pw_FL RX11 218 11 34 := ⟨RX11, TX11, 39, rfl, by decide, pw_tab 763 (by decide +kernel) rfl, pw_uX11⟩
theorem fp_X11_218 : pw_FP RX11 218 11 34 .int := ⟨RX11, TX11, 39, tyX11, rfl, by decide, pw_tab 763 (by decide +kernel) rfl, pw_uX11, tyX11_ok, nmX11, rfl, by decide +kernel⟩
theorem fl_X11_211 : pw_FL RX11 211 11 35 := ⟨RX11, TX11, 39, rfl, by decide, pw_tab 764 (by decide +kernel) rfl, pw_uX11⟩
theorem fp_X11_211 : pw_FP RX11 211 11 35 .int := ⟨RX11, TX11, 39, tyX11, rfl, by decide, pw_tab 764 (by decide +kernel) rfl, pw_uX11, tyX11_ok, nmX11, rfl, by decide +kernel⟩
theorem fl_X11_82 : pw_FL RX11 82 11 36 := ⟨RX11, TX11, 39, rfl, by decide, pw_tab 765 (by decide +kernel) rfl, pw_uX11⟩
theorem fl_X11_85 : pw_FL RX11 85 11 37 := ⟨RX11, TX11, 39, rfl, by decide, pw_tab 766 (by decide +kernel) rfl, pw_uX11⟩
theorem fl_X11_88 : pw_FL RX11 88 11 38 := ⟨RX11, TX11, 39, rfl, by decide, pw_tab 767 (by decide +kernel) rfl, pw_uX11⟩
theorem mv_L_17 : pw_MV RL 17 11 m_X11_routine 1 := ⟨⟨TX11, 39, rfl⟩, pw_tab 847 (by decide +kernel) rfl, pw_tab 848 (by decide +kernel) rfl, pw_tab 849 (by decide +kernel) rfl, mb_X11_routine⟩
theorem k_X11_101 : Jvm.Cond.constantLong RX11 101 (500) ∈ pw_ws := pw_tab 851 (by decide +kernel) rfl
theorem ms_X11_95 : pw_MS RX11 95 m_X11_in 3 := ⟨pw_tab 852 (by decide +kernel) rfl, pw_tab 853 (by decide +kernel) rfl, mb_X11_in⟩
theorem mv_L_22 : pw_MV RL 22 11 m_X11_frame 2 := ⟨⟨TX11, 39, rfl⟩, pw_tab 855 (by decide +kernel) rfl, pw_tab 856 (by decide +kernel) rfl, pw_tab 857 (by decide +kernel) rfl, mb_X11_frame⟩
theorem mv_X11_103 : pw_MV RX11 103 11 m_X11_is 1 := ⟨⟨TX11, 39, rfl⟩, pw_tab 859 (by decide +kernel) rfl, pw_tab 861 (by decide +kernel) rfl, pw_sel 29 (by decide +kernel) rfl, mb_X11_is⟩
theorem mv_L_26 : pw_MV RL 26 11 m_X11_turns 2 := ⟨⟨TX11, 39, rfl⟩, pw_tab 863 (by decide +kernel) rfl, pw_tab 864 (by decide +kernel) rfl, pw_tab 865 (by decide +kernel) rfl, mb_X11_turns⟩
theorem k_X11_107 : Jvm.Cond.constantLong RX11 107 (20) ∈ pw_ws := pw_tab 867 (by decide +kernel) rfl
theorem mv_L_31 : pw_MV RL 31 11 m_X11_call 4 := ⟨⟨TX11, 39, rfl⟩, pw_tab 868 (by decide +kernel) rfl, pw_tab 869 (by decide +kernel) rfl, pw_tab 870 (by decide +kernel) rfl, mb_X11_call⟩
theorem ms_X11_121 : pw_MS RX11 121 m_X11_sortOf 2 := ⟨pw_tab 872 (by decide +kernel) rfl, pw_tab 873 (by decide +kernel) rfl, mb_X11_sortOf⟩
theorem mv_X11_125 : pw_MV RX11 125 11 m_X11_called 3 := ⟨⟨TX11, 39, rfl⟩, pw_tab 875 (by decide +kernel) rfl, pw_tab 877 (by decide +kernel) rfl, pw_sel 30 (by decide +kernel) rfl, mb_X11_called⟩
theorem k_X11_112 : Jvm.Cond.constantLong RX11 112 (3) ∈ pw_ws := pw_tab 879 (by decide +kernel) rfl
theorem ms_X11_114 : pw_MS RX11 114 m_X11_isPointer 1 := ⟨pw_tab 880 (by decide +kernel) rfl, pw_tab 881 (by decide +kernel) rfl, mb_X11_isPointer⟩
theorem k_X11_99 : Jvm.Cond.constantLong RX11 99 (7) ∈ pw_ws := pw_tab 883 (by decide +kernel) rfl
theorem mv_X11_117 : pw_MV RX11 117 11 m_X11_find 3 := ⟨⟨TX11, 39, rfl⟩, pw_tab 884 (by decide +kernel) rfl, pw_tab 886 (by decide +kernel) rfl, pw_sel 31 (by decide +kernel) rfl, mb_X11_find⟩
theorem mv_L_35 : pw_MV RL 35 11 m_X11_cut 4 := ⟨⟨TX11, 39, rfl⟩, pw_tab 888 (by decide +kernel) rfl, pw_tab 889 (by decide +kernel) rfl, pw_tab 890 (by decide +kernel) rfl, mb_X11_cut⟩
theorem mv_L_39 : pw_MV RL 39 11 m_X11_take 2 := ⟨⟨TX11, 39, rfl⟩, pw_tab 892 (by decide +kernel) rfl, pw_tab 893 (by decide +kernel) rfl, pw_tab 894 (by decide +kernel) rfl, mb_X11_take⟩
theorem mv_L_43 : pw_MV RL 43 11 m_X11_flow 2 := ⟨⟨TX11, 39, rfl⟩, pw_tab 896 (by decide +kernel) rfl, pw_tab 897 (by decide +kernel) rfl, pw_tab 898 (by decide +kernel) rfl, mb_X11_flow⟩
theorem mv_L_47 : pw_MV RL 47 11 m_X11_goals 1 := ⟨⟨TX11, 39, rfl⟩, pw_tab 900 (by decide +kernel) rfl, pw_tab 901 (by decide +kernel) rfl, pw_tab 902 (by decide +kernel) rfl, mb_X11_goals⟩
theorem mv_X11_128 : pw_MV RX11 128 11 m_X11_layGoals 0 := ⟨⟨TX11, 39, rfl⟩, pw_tab 904 (by decide +kernel) rfl, pw_tab 906 (by decide +kernel) rfl, pw_sel 32 (by decide +kernel) rfl, mb_X11_layGoals⟩
theorem mv_L_51 : pw_MV RL 51 11 m_X11_about 2 := ⟨⟨TX11, 39, rfl⟩, pw_tab 908 (by decide +kernel) rfl, pw_tab 909 (by decide +kernel) rfl, pw_tab 910 (by decide +kernel) rfl, mb_X11_about⟩
theorem k_X11_131 : Jvm.Cond.constantLong RX11 131 (5) ∈ pw_ws := pw_tab 912 (by decide +kernel) rfl
theorem mv_X11_133 : pw_MV RX11 133 11 m_X11_layNet 0 := ⟨⟨TX11, 39, rfl⟩, pw_tab 913 (by decide +kernel) rfl, pw_tab 915 (by decide +kernel) rfl, pw_sel 33 (by decide +kernel) rfl, mb_X11_layNet⟩
theorem mv_X11_136 : pw_MV RX11 136 11 m_X11_isRing 1 := ⟨⟨TX11, 39, rfl⟩, pw_tab 917 (by decide +kernel) rfl, pw_tab 919 (by decide +kernel) rfl, pw_sel 34 (by decide +kernel) rfl, mb_X11_isRing⟩
theorem ms_X11_139 : pw_MS RX11 139 m_X11_leastOf 1 := ⟨pw_tab 921 (by decide +kernel) rfl, pw_tab 922 (by decide +kernel) rfl, mb_X11_leastOf⟩
theorem ms_X11_143 : pw_MS RX11 143 m_X11_sizeOf 1 := ⟨pw_tab 924 (by decide +kernel) rfl, pw_tab 925 (by decide +kernel) rfl, mb_X11_sizeOf⟩
theorem mv_L_55 : pw_MV RL 55 11 m_X11_depth 1 := ⟨⟨TX11, 39, rfl⟩, pw_tab 927 (by decide +kernel) rfl, pw_tab 928 (by decide +kernel) rfl, pw_tab 929 (by decide +kernel) rfl, mb_X11_depth⟩
theorem mv_X11_155 : pw_MV RX11 155 11 m_X11_layDepths 0 := ⟨⟨TX11, 39, rfl⟩, pw_tab 931 (by decide +kernel) rfl, pw_tab 933 (by decide +kernel) rfl, pw_sel 35 (by decide +kernel) rfl, mb_X11_layDepths⟩
theorem mv_X11_152 : pw_MV RX11 152 11 m_X11_reckoned 1 := ⟨⟨TX11, 39, rfl⟩, pw_tab 935 (by decide +kernel) rfl, pw_tab 937 (by decide +kernel) rfl, pw_sel 36 (by decide +kernel) rfl, mb_X11_reckoned⟩
theorem mv_X11_146 : pw_MV RX11 146 11 m_X11_greatest 1 := ⟨⟨TX11, 39, rfl⟩, pw_tab 939 (by decide +kernel) rfl, pw_tab 941 (by decide +kernel) rfl, pw_sel 37 (by decide +kernel) rfl, mb_X11_greatest⟩
theorem mv_X11_149 : pw_MV RX11 149 11 m_X11_own 1 := ⟨⟨TX11, 39, rfl⟩, pw_tab 943 (by decide +kernel) rfl, pw_tab 945 (by decide +kernel) rfl, pw_sel 38 (by decide +kernel) rfl, mb_X11_own⟩
theorem mv_L_59 : pw_MV RL 59 11 m_X11_way 2 := ⟨⟨TX11, 39, rfl⟩, pw_tab 947 (by decide +kernel) rfl, pw_tab 948 (by decide +kernel) rfl, pw_tab 949 (by decide +kernel) rfl, mb_X11_way⟩
theorem mv_X11_158 : pw_MV RX11 158 11 m_X11_reachesRing 1 := ⟨⟨TX11, 39, rfl⟩, pw_tab 951 (by decide +kernel) rfl, pw_tab 953 (by decide +kernel) rfl, pw_sel 39 (by decide +kernel) rfl, mb_X11_reachesRing⟩
theorem mv_X11_161 : pw_MV RX11 161 11 m_X11_nextOf 1 := ⟨⟨TX11, 39, rfl⟩, pw_tab 955 (by decide +kernel) rfl, pw_tab 957 (by decide +kernel) rfl, pw_sel 40 (by decide +kernel) rfl, mb_X11_nextOf⟩
theorem mv_L_63 : pw_MV RL 63 11 m_X11_endless 1 := ⟨⟨TX11, 39, rfl⟩, pw_tab 959 (by decide +kernel) rfl, pw_tab 960 (by decide +kernel) rfl, pw_tab 961 (by decide +kernel) rfl, mb_X11_endless⟩
theorem mv_L_68 : pw_MV RL 68 11 m_X11_interrupt 3 := ⟨⟨TX11, 39, rfl⟩, pw_tab 963 (by decide +kernel) rfl, pw_tab 964 (by decide +kernel) rfl, pw_tab 965 (by decide +kernel) rfl, mb_X11_interrupt⟩
theorem k_X11_164 : Jvm.Cond.constantLong RX11 164 (100) ∈ pw_ws := pw_tab 967 (by decide +kernel) rfl
theorem mv_L_72 : pw_MV RL 72 11 m_X11_task 3 := ⟨⟨TX11, 39, rfl⟩, pw_tab 968 (by decide +kernel) rfl, pw_tab 969 (by decide +kernel) rfl, pw_tab 970 (by decide +kernel) rfl, mb_X11_task⟩
theorem mv_L_76 : pw_MV RL 76 11 m_X11_total 2 := ⟨⟨TX11, 39, rfl⟩, pw_tab 972 (by decide +kernel) rfl, pw_tab 973 (by decide +kernel) rfl, pw_tab 974 (by decide +kernel) rfl, mb_X11_total⟩
theorem mv_X11_175 : pw_MV RX11 175 11 m_X11_isTask 1 := ⟨⟨TX11, 39, rfl⟩, pw_tab 976 (by decide +kernel) rfl, pw_tab 978 (by decide +kernel) rfl, pw_sel 41 (by decide +kernel) rfl, mb_X11_isTask⟩
theorem mv_X11_178 : pw_MV RX11 178 11 m_X11_totalOf 1 := ⟨⟨TX11, 39, rfl⟩, pw_tab 980 (by decide +kernel) rfl, pw_tab 982 (by decide +kernel) rfl, pw_sel 42 (by decide +kernel) rfl, mb_X11_totalOf⟩
theorem mv_X11_172 : pw_MV RX11 172 11 m_X11_top 1 := ⟨⟨TX11, 39, rfl⟩, pw_tab 984 (by decide +kernel) rfl, pw_tab 986 (by decide +kernel) rfl, pw_sel 43 (by decide +kernel) rfl, mb_X11_top⟩
theorem mv_L_81 : pw_MV RL 81 11 m_X11_apart 3 := ⟨⟨TX11, 39, rfl⟩, pw_tab 988 (by decide +kernel) rfl, pw_tab 989 (by decide +kernel) rfl, pw_tab 990 (by decide +kernel) rfl, mb_X11_apart⟩
theorem mv_L_86 : pw_MV RL 86 11 m_X11_shared 0 := ⟨⟨TX11, 39, rfl⟩, pw_tab 992 (by decide +kernel) rfl, pw_tab 993 (by decide +kernel) rfl, pw_tab 994 (by decide +kernel) rfl, mb_X11_shared⟩
theorem mv_X11_195 : pw_MV RX11 195 11 m_X11_share 0 := ⟨⟨TX11, 39, rfl⟩, pw_tab 996 (by decide +kernel) rfl, pw_tab 998 (by decide +kernel) rfl, pw_sel 44 (by decide +kernel) rfl, mb_X11_share⟩
theorem mv_X11_187 : pw_MV RX11 187 11 m_X11_sumOf 0 := ⟨⟨TX11, 39, rfl⟩, pw_tab 1000 (by decide +kernel) rfl, pw_tab 1002 (by decide +kernel) rfl, pw_sel 45 (by decide +kernel) rfl, mb_X11_sumOf⟩
theorem mv_X11_191 : pw_MV RX11 191 11 m_X11_nextWay 0 := ⟨⟨TX11, 39, rfl⟩, pw_tab 1004 (by decide +kernel) rfl, pw_tab 1006 (by decide +kernel) rfl, pw_sel 46 (by decide +kernel) rfl, mb_X11_nextWay⟩
theorem mv_X11_181 : pw_MV RX11 181 11 m_X11_highest 1 := ⟨⟨TX11, 39, rfl⟩, pw_tab 1008 (by decide +kernel) rfl, pw_tab 1010 (by decide +kernel) rfl, pw_sel 47 (by decide +kernel) rfl, mb_X11_highest⟩
theorem mv_L_90 : pw_MV RL 90 11 m_X11_group 1 := ⟨⟨TX11, 39, rfl⟩, pw_tab 1012 (by decide +kernel) rfl, pw_tab 1013 (by decide +kernel) rfl, pw_tab 1014 (by decide +kernel) rfl, mb_X11_group⟩
theorem mv_L_94 : pw_MV RL 94 11 m_X11_saves 2 := ⟨⟨TX11, 39, rfl⟩, pw_tab 1016 (by decide +kernel) rfl, pw_tab 1017 (by decide +kernel) rfl, pw_tab 1018 (by decide +kernel) rfl, mb_X11_saves⟩
theorem mv_X11_198 : pw_MV RX11 198 11 m_X11_savesOf 2 := ⟨⟨TX11, 39, rfl⟩, pw_tab 1020 (by decide +kernel) rfl, pw_tab 1022 (by decide +kernel) rfl, pw_sel 48 (by decide +kernel) rfl, mb_X11_savesOf⟩
theorem mv_L_98 : pw_MV RL 98 11 m_X11_best 1 := ⟨⟨TX11, 39, rfl⟩, pw_tab 1024 (by decide +kernel) rfl, pw_tab 1025 (by decide +kernel) rfl, pw_tab 1026 (by decide +kernel) rfl, mb_X11_best⟩
theorem mv_L_102 : pw_MV RL 102 11 m_X11_run 1 := ⟨⟨TX11, 39, rfl⟩, pw_tab 1028 (by decide +kernel) rfl, pw_tab 1029 (by decide +kernel) rfl, pw_tab 1030 (by decide +kernel) rfl, mb_X11_run⟩
theorem mv_X11_224 : pw_MV RX11 224 11 m_X11_put 1 := ⟨⟨TX11, 39, rfl⟩, pw_tab 1032 (by decide +kernel) rfl, pw_tab 1034 (by decide +kernel) rfl, pw_sel 49 (by decide +kernel) rfl, mb_X11_put⟩
theorem mv_L_106 : pw_MV RL 106 11 m_X11_enter 1 := ⟨⟨TX11, 39, rfl⟩, pw_tab 1036 (by decide +kernel) rfl, pw_tab 1037 (by decide +kernel) rfl, pw_tab 1038 (by decide +kernel) rfl, mb_X11_enter⟩
theorem mv_L_110 : pw_MV RL 110 11 m_X11_over 1 := ⟨⟨TX11, 39, rfl⟩, pw_tab 1040 (by decide +kernel) rfl, pw_tab 1041 (by decide +kernel) rfl, pw_tab 1042 (by decide +kernel) rfl, mb_X11_over⟩
theorem mv_X11_228 : pw_MV RX11 228 11 m_X11_pull 0 := ⟨⟨TX11, 39, rfl⟩, pw_tab 1044 (by decide +kernel) rfl, pw_tab 1046 (by decide +kernel) rfl, pw_sel 50 (by decide +kernel) rfl, mb_X11_pull⟩
theorem mv_L_114 : pw_MV RL 114 11 m_X11_leave 0 := ⟨⟨TX11, 39, rfl⟩, pw_tab 1048 (by decide +kernel) rfl, pw_tab 1049 (by decide +kernel) rfl, pw_tab 1050 (by decide +kernel) rfl, mb_X11_leave⟩
theorem mv_L_118 : pw_MV RL 118 11 m_X11_ran 1 := ⟨⟨TX11, 39, rfl⟩, pw_tab 1052 (by decide +kernel) rfl, pw_tab 1053 (by decide +kernel) rfl, pw_tab 1054 (by decide +kernel) rfl, mb_X11_ran⟩
theorem k_X11_231 : Jvm.Cond.constantLong RX11 231 (6) ∈ pw_ws := pw_tab 1056 (by decide +kernel) rfl
theorem mv_L_122 : pw_MV RL 122 11 m_X11_sheet 3 := ⟨⟨TX11, 39, rfl⟩, pw_tab 1057 (by decide +kernel) rfl, pw_tab 1058 (by decide +kernel) rfl, pw_tab 1059 (by decide +kernel) rfl, mb_X11_sheet⟩
theorem k_X11_233 : Jvm.Cond.constantLong RX11 233 (2) ∈ pw_ws := pw_tab 1061 (by decide +kernel) rfl
theorem mv_L_126 : pw_MV RL 126 11 m_X11_lay 3 := ⟨⟨TX11, 39, rfl⟩, pw_tab 1062 (by decide +kernel) rfl, pw_tab 1063 (by decide +kernel) rfl, pw_tab 1064 (by decide +kernel) rfl, mb_X11_lay⟩
theorem mv_L_131 : pw_MV RL 131 11 m_X11_scan 4 := ⟨⟨TX11, 39, rfl⟩, pw_tab 1066 (by decide +kernel) rfl, pw_tab 1067 (by decide +kernel) rfl, pw_tab 1068 (by decide +kernel) rfl, mb_X11_scan⟩
theorem mv_L_135 : pw_MV RL 135 11 m_X11_count 1 := ⟨⟨TX11, 39, rfl⟩, pw_tab 1070 (by decide +kernel) rfl, pw_tab 1071 (by decide +kernel) rfl, pw_tab 1072 (by decide +kernel) rfl, mb_X11_count⟩
end
