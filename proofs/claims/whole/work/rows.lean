section
-- ===== PART A: goes FIRST, ahead of the names: the tables' words, and 'selects' of the private methods out of them =====
/-- a private method of a class that the tables say can be made, by its rows of tables_1 -/
def lw_okq (q : MethodName × Nat) : Prop := (q.1.cls ≠ "java/lang/invoke/MethodHandle" ∧ q.1.cls ≠ "java/lang/invoke/VarHandle") ∧ Cond.instantiable q.1.cls q.2 ∈ tables_1 ∧ Cond.privateMethod q.1 ∈ tables_1 ∧ Cond.instanceMethod q.1 ∈ tables_1
theorem lw_p0 : lw_okq (⟨"StackDepths", "isRoutine", "(I)Z"⟩, 10) := ⟨⟨by decide +kernel, by decide +kernel⟩, List.mem_of_getElem? (i := 16) (by decide +kernel), List.mem_of_getElem? (i := 339) (by decide +kernel), List.mem_of_getElem? (i := 340) (by decide +kernel)⟩
theorem lw_p1 : lw_okq (⟨"StackDepths", "refusalOfCall", "(III)I"⟩, 10) := ⟨⟨by decide +kernel, by decide +kernel⟩, List.mem_of_getElem? (i := 16) (by decide +kernel), List.mem_of_getElem? (i := 354) (by decide +kernel), List.mem_of_getElem? (i := 355) (by decide +kernel)⟩
theorem lw_p2 : lw_okq (⟨"StackDepths", "canBeCall", "(III)Z"⟩, 10) := ⟨⟨by decide +kernel, by decide +kernel⟩, List.mem_of_getElem? (i := 16) (by decide +kernel), List.mem_of_getElem? (i := 358) (by decide +kernel), List.mem_of_getElem? (i := 359) (by decide +kernel)⟩
theorem lw_p3 : lw_okq (⟨"StackDepths$Pointers", "spreadGoals", "()V"⟩, 3) := ⟨⟨by decide +kernel, by decide +kernel⟩, List.mem_of_getElem? (i := 48) (by decide +kernel), List.mem_of_getElem? (i := 393) (by decide +kernel), List.mem_of_getElem? (i := 394) (by decide +kernel)⟩
theorem lw_p4 : lw_okq (⟨"StackDepths$Graph", "drawCalls", "()V"⟩, 11) := ⟨⟨by decide +kernel, by decide +kernel⟩, List.mem_of_getElem? (i := 85) (by decide +kernel), List.mem_of_getElem? (i := 421) (by decide +kernel), List.mem_of_getElem? (i := 422) (by decide +kernel)⟩
theorem lw_p5 : lw_okq (⟨"StackDepths$Graph", "closeReach", "()V"⟩, 11) := ⟨⟨by decide +kernel, by decide +kernel⟩, List.mem_of_getElem? (i := 85) (by decide +kernel), List.mem_of_getElem? (i := 426) (by decide +kernel), List.mem_of_getElem? (i := 427) (by decide +kernel)⟩
theorem lw_p6 : lw_okq (⟨"StackDepths$Graph", "gatherTogether", "()V"⟩, 11) := ⟨⟨by decide +kernel, by decide +kernel⟩, List.mem_of_getElem? (i := 85) (by decide +kernel), List.mem_of_getElem? (i := 431) (by decide +kernel), List.mem_of_getElem? (i := 432) (by decide +kernel)⟩
theorem lw_p7 : lw_okq (⟨"StackDepths$Graph", "markRings", "()V"⟩, 11) := ⟨⟨by decide +kernel, by decide +kernel⟩, List.mem_of_getElem? (i := 85) (by decide +kernel), List.mem_of_getElem? (i := 435) (by decide +kernel), List.mem_of_getElem? (i := 436) (by decide +kernel)⟩
theorem lw_p8 : lw_okq (⟨"StackDepths$Graph", "orderLeaders", "()V"⟩, 11) := ⟨⟨by decide +kernel, by decide +kernel⟩, List.mem_of_getElem? (i := 85) (by decide +kernel), List.mem_of_getElem? (i := 439) (by decide +kernel), List.mem_of_getElem? (i := 440) (by decide +kernel)⟩
theorem lw_p9 : lw_okq (⟨"StackDepths$Depths", "depthOfRing", "(I)I"⟩, 4) := ⟨⟨by decide +kernel, by decide +kernel⟩, List.mem_of_getElem? (i := 136) (by decide +kernel), List.mem_of_getElem? (i := 472) (by decide +kernel), List.mem_of_getElem? (i := 473) (by decide +kernel)⟩
theorem lw_p10 : lw_okq (⟨"StackDepths$Depths", "frameOf", "(I)I"⟩, 4) := ⟨⟨by decide +kernel, by decide +kernel⟩, List.mem_of_getElem? (i := 136) (by decide +kernel), List.mem_of_getElem? (i := 476) (by decide +kernel), List.mem_of_getElem? (i := 477) (by decide +kernel)⟩
theorem lw_p11 : lw_okq (⟨"StackDepths$Depths", "greatestOf", "(I)I"⟩, 4) := ⟨⟨by decide +kernel, by decide +kernel⟩, List.mem_of_getElem? (i := 136) (by decide +kernel), List.mem_of_getElem? (i := 480) (by decide +kernel), List.mem_of_getElem? (i := 481) (by decide +kernel)⟩
theorem lw_p12 : lw_okq (⟨"StackDepths$Depths", "depthOfTails", "(I)I"⟩, 4) := ⟨⟨by decide +kernel, by decide +kernel⟩, List.mem_of_getElem? (i := 136) (by decide +kernel), List.mem_of_getElem? (i := 490) (by decide +kernel), List.mem_of_getElem? (i := 491) (by decide +kernel)⟩
theorem lw_p13 : lw_okq (⟨"StackDepths$Depths", "depthOfItself", "(I)I"⟩, 4) := ⟨⟨by decide +kernel, by decide +kernel⟩, List.mem_of_getElem? (i := 136) (by decide +kernel), List.mem_of_getElem? (i := 494) (by decide +kernel), List.mem_of_getElem? (i := 495) (by decide +kernel)⟩
theorem lw_p14 : lw_okq (⟨"StackDepths$Depths", "spread", "(II)V"⟩, 4) := ⟨⟨by decide +kernel, by decide +kernel⟩, List.mem_of_getElem? (i := 136) (by decide +kernel), List.mem_of_getElem? (i := 498) (by decide +kernel), List.mem_of_getElem? (i := 499) (by decide +kernel)⟩
theorem lw_p15 : lw_okq (⟨"StackDepths$Depths", "leastThatTells", "(II)I"⟩, 4) := ⟨⟨by decide +kernel, by decide +kernel⟩, List.mem_of_getElem? (i := 136) (by decide +kernel), List.mem_of_getElem? (i := 514) (by decide +kernel), List.mem_of_getElem? (i := 515) (by decide +kernel)⟩
def lw_privs_1 : List (MethodName × Nat) := [(⟨"StackDepths", "isRoutine", "(I)Z"⟩, 10), (⟨"StackDepths", "refusalOfCall", "(III)I"⟩, 10), (⟨"StackDepths", "canBeCall", "(III)Z"⟩, 10), (⟨"StackDepths$Pointers", "spreadGoals", "()V"⟩, 3), (⟨"StackDepths$Graph", "drawCalls", "()V"⟩, 11), (⟨"StackDepths$Graph", "closeReach", "()V"⟩, 11), (⟨"StackDepths$Graph", "gatherTogether", "()V"⟩, 11), (⟨"StackDepths$Graph", "markRings", "()V"⟩, 11), (⟨"StackDepths$Graph", "orderLeaders", "()V"⟩, 11), (⟨"StackDepths$Depths", "depthOfRing", "(I)I"⟩, 4), (⟨"StackDepths$Depths", "frameOf", "(I)I"⟩, 4), (⟨"StackDepths$Depths", "greatestOf", "(I)I"⟩, 4), (⟨"StackDepths$Depths", "depthOfTails", "(I)I"⟩, 4), (⟨"StackDepths$Depths", "depthOfItself", "(I)I"⟩, 4), (⟨"StackDepths$Depths", "spread", "(II)V"⟩, 4), (⟨"StackDepths$Depths", "leastThatTells", "(II)I"⟩, 4)]
theorem lw_r1 : ∀ q ∈ lw_privs_1, lw_okq q := List.forall_mem_cons.mpr ⟨lw_p0, List.forall_mem_cons.mpr ⟨lw_p1, List.forall_mem_cons.mpr ⟨lw_p2, List.forall_mem_cons.mpr ⟨lw_p3, List.forall_mem_cons.mpr ⟨lw_p4, List.forall_mem_cons.mpr ⟨lw_p5, List.forall_mem_cons.mpr ⟨lw_p6, List.forall_mem_cons.mpr ⟨lw_p7, List.forall_mem_cons.mpr ⟨lw_p8, List.forall_mem_cons.mpr ⟨lw_p9, List.forall_mem_cons.mpr ⟨lw_p10, List.forall_mem_cons.mpr ⟨lw_p11, List.forall_mem_cons.mpr ⟨lw_p12, List.forall_mem_cons.mpr ⟨lw_p13, List.forall_mem_cons.mpr ⟨lw_p14, List.forall_mem_cons.mpr ⟨lw_p15, fun _ h => absurd h List.not_mem_nil⟩⟩⟩⟩⟩⟩⟩⟩⟩⟩⟩⟩⟩⟩⟩⟩
theorem lw_p16 : lw_okq (⟨"StackDepths$Depths", "leastThatHas", "(II)I"⟩, 4) := ⟨⟨by decide +kernel, by decide +kernel⟩, List.mem_of_getElem? (i := 136) (by decide +kernel), List.mem_of_getElem? (i := 518) (by decide +kernel), List.mem_of_getElem? (i := 519) (by decide +kernel)⟩
theorem lw_p17 : lw_okq (⟨"StackDepths", "isTask", "(I)Z"⟩, 10) := ⟨⟨by decide +kernel, by decide +kernel⟩, List.mem_of_getElem? (i := 16) (by decide +kernel), List.mem_of_getElem? (i := 550) (by decide +kernel), List.mem_of_getElem? (i := 551) (by decide +kernel)⟩
theorem lw_p18 : lw_okq (⟨"StackDepths$Interrupts", "greatestAt", "(I[I)I"⟩, 4) := ⟨⟨by decide +kernel, by decide +kernel⟩, List.mem_of_getElem? (i := 156) (by decide +kernel), List.mem_of_getElem? (i := 558) (by decide +kernel), List.mem_of_getElem? (i := 559) (by decide +kernel)⟩
theorem lw_p19 : lw_okq (⟨"StackDepths", "totalAsMeasured", "(I)I"⟩, 10) := ⟨⟨by decide +kernel, by decide +kernel⟩, List.mem_of_getElem? (i := 16) (by decide +kernel), List.mem_of_getElem? (i := 564) (by decide +kernel), List.mem_of_getElem? (i := 565) (by decide +kernel)⟩
theorem lw_p20 : lw_okq (⟨"StackDepths", "roomAsMeasured", "(I)I"⟩, 10) := ⟨⟨by decide +kernel, by decide +kernel⟩, List.mem_of_getElem? (i := 16) (by decide +kernel), List.mem_of_getElem? (i := 569) (by decide +kernel), List.mem_of_getElem? (i := 570) (by decide +kernel)⟩
theorem lw_p21 : lw_okq (⟨"StackDepths", "shareRooms", "()I"⟩, 10) := ⟨⟨by decide +kernel, by decide +kernel⟩, List.mem_of_getElem? (i := 16) (by decide +kernel), List.mem_of_getElem? (i := 585) (by decide +kernel), List.mem_of_getElem? (i := 586) (by decide +kernel)⟩
theorem lw_p22 : lw_okq (⟨"StackDepths$Sharing", "place", "(LStackDepths$Tasks;III)V"⟩, 6) := ⟨⟨by decide +kernel, by decide +kernel⟩, List.mem_of_getElem? (i := 205) (by decide +kernel), List.mem_of_getElem? (i := 594) (by decide +kernel), List.mem_of_getElem? (i := 595) (by decide +kernel)⟩
theorem lw_p23 : lw_okq (⟨"StackDepths$Sharing", "keep", "(I)V"⟩, 6) := ⟨⟨by decide +kernel, by decide +kernel⟩, List.mem_of_getElem? (i := 205) (by decide +kernel), List.mem_of_getElem? (i := 598) (by decide +kernel), List.mem_of_getElem? (i := 599) (by decide +kernel)⟩
theorem lw_p24 : lw_okq (⟨"StackDepths", "totalWithout", "(II)I"⟩, 10) := ⟨⟨by decide +kernel, by decide +kernel⟩, List.mem_of_getElem? (i := 16) (by decide +kernel), List.mem_of_getElem? (i := 613) (by decide +kernel), List.mem_of_getElem? (i := 614) (by decide +kernel)⟩
theorem lw_p25 : lw_okq (⟨"StackDepths", "pushMarked", "(I)I"⟩, 10) := ⟨⟨by decide +kernel, by decide +kernel⟩, List.mem_of_getElem? (i := 16) (by decide +kernel), List.mem_of_getElem? (i := 646) (by decide +kernel), List.mem_of_getElem? (i := 647) (by decide +kernel)⟩
theorem lw_p26 : lw_okq (⟨"StackDepths", "stayedWithinDepth", "()Z"⟩, 10) := ⟨⟨by decide +kernel, by decide +kernel⟩, List.mem_of_getElem? (i := 16) (by decide +kernel), List.mem_of_getElem? (i := 670) (by decide +kernel), List.mem_of_getElem? (i := 671) (by decide +kernel)⟩
theorem lw_p27 : lw_okq (⟨"StackDepths", "addFromSheet", "(LStackDepths$Sheet;II)I"⟩, 10) := ⟨⟨by decide +kernel, by decide +kernel⟩, List.mem_of_getElem? (i := 16) (by decide +kernel), List.mem_of_getElem? (i := 704) (by decide +kernel), List.mem_of_getElem? (i := 705) (by decide +kernel)⟩
theorem lw_p28 : lw_okq (⟨"StackDepths", "removeFromSheet", "(LStackDepths$Sheet;II)V"⟩, 10) := ⟨⟨by decide +kernel, by decide +kernel⟩, List.mem_of_getElem? (i := 16) (by decide +kernel), List.mem_of_getElem? (i := 712) (by decide +kernel), List.mem_of_getElem? (i := 713) (by decide +kernel)⟩
theorem lw_p29 : lw_okq (⟨"StackDepthsModel", "is", "(I)Z"⟩, 39) := ⟨⟨by decide +kernel, by decide +kernel⟩, List.mem_of_getElem? (i := 724) (by decide +kernel), List.mem_of_getElem? (i := 860) (by decide +kernel), List.mem_of_getElem? (i := 861) (by decide +kernel)⟩
theorem lw_p30 : lw_okq (⟨"StackDepthsModel", "called", "(III)I"⟩, 39) := ⟨⟨by decide +kernel, by decide +kernel⟩, List.mem_of_getElem? (i := 724) (by decide +kernel), List.mem_of_getElem? (i := 876) (by decide +kernel), List.mem_of_getElem? (i := 877) (by decide +kernel)⟩
theorem lw_p31 : lw_okq (⟨"StackDepthsModel", "find", "(III)I"⟩, 39) := ⟨⟨by decide +kernel, by decide +kernel⟩, List.mem_of_getElem? (i := 724) (by decide +kernel), List.mem_of_getElem? (i := 885) (by decide +kernel), List.mem_of_getElem? (i := 886) (by decide +kernel)⟩
def lw_privs_2 : List (MethodName × Nat) := [(⟨"StackDepths$Depths", "leastThatHas", "(II)I"⟩, 4), (⟨"StackDepths", "isTask", "(I)Z"⟩, 10), (⟨"StackDepths$Interrupts", "greatestAt", "(I[I)I"⟩, 4), (⟨"StackDepths", "totalAsMeasured", "(I)I"⟩, 10), (⟨"StackDepths", "roomAsMeasured", "(I)I"⟩, 10), (⟨"StackDepths", "shareRooms", "()I"⟩, 10), (⟨"StackDepths$Sharing", "place", "(LStackDepths$Tasks;III)V"⟩, 6), (⟨"StackDepths$Sharing", "keep", "(I)V"⟩, 6), (⟨"StackDepths", "totalWithout", "(II)I"⟩, 10), (⟨"StackDepths", "pushMarked", "(I)I"⟩, 10), (⟨"StackDepths", "stayedWithinDepth", "()Z"⟩, 10), (⟨"StackDepths", "addFromSheet", "(LStackDepths$Sheet;II)I"⟩, 10), (⟨"StackDepths", "removeFromSheet", "(LStackDepths$Sheet;II)V"⟩, 10), (⟨"StackDepthsModel", "is", "(I)Z"⟩, 39), (⟨"StackDepthsModel", "called", "(III)I"⟩, 39), (⟨"StackDepthsModel", "find", "(III)I"⟩, 39)]
theorem lw_r2 : ∀ q ∈ lw_privs_2, lw_okq q := List.forall_mem_cons.mpr ⟨lw_p16, List.forall_mem_cons.mpr ⟨lw_p17, List.forall_mem_cons.mpr ⟨lw_p18, List.forall_mem_cons.mpr ⟨lw_p19, List.forall_mem_cons.mpr ⟨lw_p20, List.forall_mem_cons.mpr ⟨lw_p21, List.forall_mem_cons.mpr ⟨lw_p22, List.forall_mem_cons.mpr ⟨lw_p23, List.forall_mem_cons.mpr ⟨lw_p24, List.forall_mem_cons.mpr ⟨lw_p25, List.forall_mem_cons.mpr ⟨lw_p26, List.forall_mem_cons.mpr ⟨lw_p27, List.forall_mem_cons.mpr ⟨lw_p28, List.forall_mem_cons.mpr ⟨lw_p29, List.forall_mem_cons.mpr ⟨lw_p30, List.forall_mem_cons.mpr ⟨lw_p31, fun _ h => absurd h List.not_mem_nil⟩⟩⟩⟩⟩⟩⟩⟩⟩⟩⟩⟩⟩⟩⟩⟩
theorem lw_p32 : lw_okq (⟨"StackDepthsModel", "layGoals", "()V"⟩, 39) := ⟨⟨by decide +kernel, by decide +kernel⟩, List.mem_of_getElem? (i := 724) (by decide +kernel), List.mem_of_getElem? (i := 905) (by decide +kernel), List.mem_of_getElem? (i := 906) (by decide +kernel)⟩
theorem lw_p33 : lw_okq (⟨"StackDepthsModel", "layNet", "()V"⟩, 39) := ⟨⟨by decide +kernel, by decide +kernel⟩, List.mem_of_getElem? (i := 724) (by decide +kernel), List.mem_of_getElem? (i := 914) (by decide +kernel), List.mem_of_getElem? (i := 915) (by decide +kernel)⟩
theorem lw_p34 : lw_okq (⟨"StackDepthsModel", "isRing", "(I)Z"⟩, 39) := ⟨⟨by decide +kernel, by decide +kernel⟩, List.mem_of_getElem? (i := 724) (by decide +kernel), List.mem_of_getElem? (i := 918) (by decide +kernel), List.mem_of_getElem? (i := 919) (by decide +kernel)⟩
theorem lw_p35 : lw_okq (⟨"StackDepthsModel", "layDepths", "()V"⟩, 39) := ⟨⟨by decide +kernel, by decide +kernel⟩, List.mem_of_getElem? (i := 724) (by decide +kernel), List.mem_of_getElem? (i := 932) (by decide +kernel), List.mem_of_getElem? (i := 933) (by decide +kernel)⟩
theorem lw_p36 : lw_okq (⟨"StackDepthsModel", "reckoned", "(I)I"⟩, 39) := ⟨⟨by decide +kernel, by decide +kernel⟩, List.mem_of_getElem? (i := 724) (by decide +kernel), List.mem_of_getElem? (i := 936) (by decide +kernel), List.mem_of_getElem? (i := 937) (by decide +kernel)⟩
theorem lw_p37 : lw_okq (⟨"StackDepthsModel", "greatest", "(I)I"⟩, 39) := ⟨⟨by decide +kernel, by decide +kernel⟩, List.mem_of_getElem? (i := 724) (by decide +kernel), List.mem_of_getElem? (i := 940) (by decide +kernel), List.mem_of_getElem? (i := 941) (by decide +kernel)⟩
theorem lw_p38 : lw_okq (⟨"StackDepthsModel", "own", "(I)I"⟩, 39) := ⟨⟨by decide +kernel, by decide +kernel⟩, List.mem_of_getElem? (i := 724) (by decide +kernel), List.mem_of_getElem? (i := 944) (by decide +kernel), List.mem_of_getElem? (i := 945) (by decide +kernel)⟩
theorem lw_p39 : lw_okq (⟨"StackDepthsModel", "reachesRing", "(I)Z"⟩, 39) := ⟨⟨by decide +kernel, by decide +kernel⟩, List.mem_of_getElem? (i := 724) (by decide +kernel), List.mem_of_getElem? (i := 952) (by decide +kernel), List.mem_of_getElem? (i := 953) (by decide +kernel)⟩
theorem lw_p40 : lw_okq (⟨"StackDepthsModel", "nextOf", "(I)I"⟩, 39) := ⟨⟨by decide +kernel, by decide +kernel⟩, List.mem_of_getElem? (i := 724) (by decide +kernel), List.mem_of_getElem? (i := 956) (by decide +kernel), List.mem_of_getElem? (i := 957) (by decide +kernel)⟩
theorem lw_p41 : lw_okq (⟨"StackDepthsModel", "isTask", "(I)Z"⟩, 39) := ⟨⟨by decide +kernel, by decide +kernel⟩, List.mem_of_getElem? (i := 724) (by decide +kernel), List.mem_of_getElem? (i := 977) (by decide +kernel), List.mem_of_getElem? (i := 978) (by decide +kernel)⟩
theorem lw_p42 : lw_okq (⟨"StackDepthsModel", "totalOf", "(I)I"⟩, 39) := ⟨⟨by decide +kernel, by decide +kernel⟩, List.mem_of_getElem? (i := 724) (by decide +kernel), List.mem_of_getElem? (i := 981) (by decide +kernel), List.mem_of_getElem? (i := 982) (by decide +kernel)⟩
theorem lw_p43 : lw_okq (⟨"StackDepthsModel", "top", "(I)I"⟩, 39) := ⟨⟨by decide +kernel, by decide +kernel⟩, List.mem_of_getElem? (i := 724) (by decide +kernel), List.mem_of_getElem? (i := 985) (by decide +kernel), List.mem_of_getElem? (i := 986) (by decide +kernel)⟩
theorem lw_p44 : lw_okq (⟨"StackDepthsModel", "share", "()Z"⟩, 39) := ⟨⟨by decide +kernel, by decide +kernel⟩, List.mem_of_getElem? (i := 724) (by decide +kernel), List.mem_of_getElem? (i := 997) (by decide +kernel), List.mem_of_getElem? (i := 998) (by decide +kernel)⟩
theorem lw_p45 : lw_okq (⟨"StackDepthsModel", "sumOf", "()I"⟩, 39) := ⟨⟨by decide +kernel, by decide +kernel⟩, List.mem_of_getElem? (i := 724) (by decide +kernel), List.mem_of_getElem? (i := 1001) (by decide +kernel), List.mem_of_getElem? (i := 1002) (by decide +kernel)⟩
theorem lw_p46 : lw_okq (⟨"StackDepthsModel", "nextWay", "()Z"⟩, 39) := ⟨⟨by decide +kernel, by decide +kernel⟩, List.mem_of_getElem? (i := 724) (by decide +kernel), List.mem_of_getElem? (i := 1005) (by decide +kernel), List.mem_of_getElem? (i := 1006) (by decide +kernel)⟩
theorem lw_p47 : lw_okq (⟨"StackDepthsModel", "highest", "(I)I"⟩, 39) := ⟨⟨by decide +kernel, by decide +kernel⟩, List.mem_of_getElem? (i := 724) (by decide +kernel), List.mem_of_getElem? (i := 1009) (by decide +kernel), List.mem_of_getElem? (i := 1010) (by decide +kernel)⟩
def lw_privs_3 : List (MethodName × Nat) := [(⟨"StackDepthsModel", "layGoals", "()V"⟩, 39), (⟨"StackDepthsModel", "layNet", "()V"⟩, 39), (⟨"StackDepthsModel", "isRing", "(I)Z"⟩, 39), (⟨"StackDepthsModel", "layDepths", "()V"⟩, 39), (⟨"StackDepthsModel", "reckoned", "(I)I"⟩, 39), (⟨"StackDepthsModel", "greatest", "(I)I"⟩, 39), (⟨"StackDepthsModel", "own", "(I)I"⟩, 39), (⟨"StackDepthsModel", "reachesRing", "(I)Z"⟩, 39), (⟨"StackDepthsModel", "nextOf", "(I)I"⟩, 39), (⟨"StackDepthsModel", "isTask", "(I)Z"⟩, 39), (⟨"StackDepthsModel", "totalOf", "(I)I"⟩, 39), (⟨"StackDepthsModel", "top", "(I)I"⟩, 39), (⟨"StackDepthsModel", "share", "()Z"⟩, 39), (⟨"StackDepthsModel", "sumOf", "()I"⟩, 39), (⟨"StackDepthsModel", "nextWay", "()Z"⟩, 39), (⟨"StackDepthsModel", "highest", "(I)I"⟩, 39)]
theorem lw_r3 : ∀ q ∈ lw_privs_3, lw_okq q := List.forall_mem_cons.mpr ⟨lw_p32, List.forall_mem_cons.mpr ⟨lw_p33, List.forall_mem_cons.mpr ⟨lw_p34, List.forall_mem_cons.mpr ⟨lw_p35, List.forall_mem_cons.mpr ⟨lw_p36, List.forall_mem_cons.mpr ⟨lw_p37, List.forall_mem_cons.mpr ⟨lw_p38, List.forall_mem_cons.mpr ⟨lw_p39, List.forall_mem_cons.mpr ⟨lw_p40, List.forall_mem_cons.mpr ⟨lw_p41, List.forall_mem_cons.mpr ⟨lw_p42, List.forall_mem_cons.mpr ⟨lw_p43, List.forall_mem_cons.mpr ⟨lw_p44, List.forall_mem_cons.mpr ⟨lw_p45, List.forall_mem_cons.mpr ⟨lw_p46, List.forall_mem_cons.mpr ⟨lw_p47, fun _ h => absurd h List.not_mem_nil⟩⟩⟩⟩⟩⟩⟩⟩⟩⟩⟩⟩⟩⟩⟩⟩
theorem lw_p48 : lw_okq (⟨"StackDepthsModel", "savesOf", "(II)I"⟩, 39) := ⟨⟨by decide +kernel, by decide +kernel⟩, List.mem_of_getElem? (i := 724) (by decide +kernel), List.mem_of_getElem? (i := 1021) (by decide +kernel), List.mem_of_getElem? (i := 1022) (by decide +kernel)⟩
theorem lw_p49 : lw_okq (⟨"StackDepthsModel", "put", "(I)V"⟩, 39) := ⟨⟨by decide +kernel, by decide +kernel⟩, List.mem_of_getElem? (i := 724) (by decide +kernel), List.mem_of_getElem? (i := 1033) (by decide +kernel), List.mem_of_getElem? (i := 1034) (by decide +kernel)⟩
theorem lw_p50 : lw_okq (⟨"StackDepthsModel", "pull", "()V"⟩, 39) := ⟨⟨by decide +kernel, by decide +kernel⟩, List.mem_of_getElem? (i := 724) (by decide +kernel), List.mem_of_getElem? (i := 1045) (by decide +kernel), List.mem_of_getElem? (i := 1046) (by decide +kernel)⟩
def lw_privs_4 : List (MethodName × Nat) := [(⟨"StackDepthsModel", "savesOf", "(II)I"⟩, 39), (⟨"StackDepthsModel", "put", "(I)V"⟩, 39), (⟨"StackDepthsModel", "pull", "()V"⟩, 39)]
theorem lw_r4 : ∀ q ∈ lw_privs_4, lw_okq q := List.forall_mem_cons.mpr ⟨lw_p48, List.forall_mem_cons.mpr ⟨lw_p49, List.forall_mem_cons.mpr ⟨lw_p50, fun _ h => absurd h List.not_mem_nil⟩⟩⟩
def lw_privs : List (MethodName × Nat) := lw_privs_1 ++ (lw_privs_2 ++ (lw_privs_3 ++ (lw_privs_4)))
def lw_tbl : List Cond := k2_sels lw_privs ++ tables_1
theorem lw_privs_ok : ∀ q ∈ lw_privs, lw_okq q := by
  show ∀ q ∈ lw_privs_1 ++ (lw_privs_2 ++ (lw_privs_3 ++ (lw_privs_4))), lw_okq q
  exact List.forall_mem_append.mpr ⟨lw_r1, List.forall_mem_append.mpr ⟨lw_r2, List.forall_mem_append.mpr ⟨lw_r3, lw_r4⟩⟩⟩
end
section
/-! ===== BEGIN words of one list among another's, by their places ===== -/
theorem goodIn_r {big : List Cond} (ws : List Cond) (ps : List Nat) (hp : ws = ps.filterMap (fun i => big[i]?)) (h : ws.all goodWord = true) : GoodIn big ws := by
  intro w hw
  have h1 := List.all_eq_true.mp h w hw
  rw [hp] at hw
  obtain ⟨i, -, hi⟩ := List.mem_filterMap.mp hw
  have hm : w ∈ big := by first | exact List.mem_of_getElem? hi | exact List.getElem?_mem hi
  exact ⟨hm, good_of_word h1⟩
theorem goodIn_app {big a b : List Cond} (ha : GoodIn big a) (hb : GoodIn big b) : GoodIn big (a ++ b) := fun w h => (List.mem_append.mp h).elim (ha w) (hb w)
theorem goodIn_ca {big a b : List Cond} {c : Cond} (ha : GoodIn big (c :: a)) (hb : GoodIn big b) : GoodIn big (c :: (a ++ b)) := fun w h => (List.mem_cons.mp h).elim (fun e => ha w (List.mem_cons.mpr (Or.inl e))) (fun h => (List.mem_append.mp h).elim (fun h => ha w (List.mem_cons.mpr (Or.inr h))) (hb w))
theorem goodIn_sub {big ws : List Cond} (hm : ∀ w ∈ ws, w ∈ big) (h : ws.all goodWord = true) : GoodIn big ws := fun w hw => ⟨hm w hw, good_of_word (List.all_eq_true.mp h w hw)⟩

def RX0 : String := "StackDepths$Calls"
def TX0 : u_T := fun k => match k with
  | 0 => ("StackDepths$Calls", "called", "[[I", true)
  | _ => ("StackDepths$Calls", "size", "I", false)
def tyX0 : Nat → FieldType := fun k => match k with
  | 0 => .array (.array .int)
  | _ => .int
theorem nmX0 : ∀ a, a < 2 → ∀ b, b < 2 → a ≠ b → (TX0 a).2.1 ≠ (TX0 b).2.1 := by decide +kernel
theorem tyX0_ok : ∀ k, k < 2 → parseFieldDescriptor (TX0 k).2.2.1 = some (tyX0 k) := by decide +kernel
abbrev cX0_init : ByteArray := prog_2_method_1_code
def yX0_init : MethodName := ⟨RX0, "<init>", "()V"⟩
abbrev cX0_has : ByteArray := prog_2_method_2_code
def yX0_has : MethodName := ⟨RX0, "has", "(III)Z"⟩
abbrev cX0_add : ByteArray := prog_2_method_3_code
def yX0_add : MethodName := ⟨RX0, "add", "(III)V"⟩
abbrev cX0_remove : ByteArray := prog_2_method_4_code
def yX0_remove : MethodName := ⟨RX0, "remove", "(III)V"⟩
def RX1 : String := "StackDepths$Depths"
def TX1 : u_T := fun k => match k with
  | 0 => ("StackDepths$Depths", "routines", "LStackDepths$Routines;", true)
  | 1 => ("StackDepths$Depths", "graph", "LStackDepths$Graph;", true)
  | 2 => ("StackDepths$Depths", "unframed", "I", false)
  | _ => ("StackDepths$Depths", "found", "[I", true)
def tyX1 : Nat → FieldType := fun k => match k with
  | 0 => .object "StackDepths$Routines"
  | 1 => .object "StackDepths$Graph"
  | 2 => .int
  | _ => .array .int
theorem nmX1 : ∀ a, a < 4 → ∀ b, b < 4 → a ≠ b → (TX1 a).2.1 ≠ (TX1 b).2.1 := by decide +kernel
theorem tyX1_ok : ∀ k, k < 4 → parseFieldDescriptor (TX1 k).2.2.1 = some (tyX1 k) := by decide +kernel
abbrev cX1_init : ByteArray := prog_3_method_1_code
def yX1_init : MethodName := ⟨RX1, "<init>", "(LStackDepths$Routines;LStackDepths$Graph;)V"⟩
abbrev cX1_measure : ByteArray := prog_3_method_2_code
def yX1_measure : MethodName := ⟨RX1, "measure", "(I)V"⟩
abbrev cX1_nextOnWay : ByteArray := prog_3_method_3_code
def yX1_nextOnWay : MethodName := ⟨RX1, "nextOnWay", "(I)I"⟩
abbrev cX1_spread : ByteArray := prog_3_method_4_code
def yX1_spread : MethodName := ⟨RX1, "spread", "(II)V"⟩
abbrev cX1_depthOfRing : ByteArray := prog_3_method_5_code
def yX1_depthOfRing : MethodName := ⟨RX1, "depthOfRing", "(I)I"⟩
abbrev cX1_depthOfTails : ByteArray := prog_3_method_6_code
def yX1_depthOfTails : MethodName := ⟨RX1, "depthOfTails", "(I)I"⟩
abbrev cX1_depthOfItself : ByteArray := prog_3_method_7_code
def yX1_depthOfItself : MethodName := ⟨RX1, "depthOfItself", "(I)I"⟩
abbrev cX1_frameOf : ByteArray := prog_3_method_8_code
def yX1_frameOf : MethodName := ⟨RX1, "frameOf", "(I)I"⟩
abbrev cX1_greatestOf : ByteArray := prog_3_method_9_code
def yX1_greatestOf : MethodName := ⟨RX1, "greatestOf", "(I)I"⟩
abbrev cX1_leastThatHas : ByteArray := prog_3_method_10_code
def yX1_leastThatHas : MethodName := ⟨RX1, "leastThatHas", "(II)I"⟩
abbrev cX1_leastThatTells : ByteArray := prog_3_method_11_code
def yX1_leastThatTells : MethodName := ⟨RX1, "leastThatTells", "(II)I"⟩
def RX2 : String := "StackDepths$Graph"
def TX2 : u_T := fun k => match k with
  | 0 => ("StackDepths$Graph", "routines", "LStackDepths$Routines;", true)
  | 1 => ("StackDepths$Graph", "pointers", "LStackDepths$Pointers;", true)
  | 2 => ("StackDepths$Graph", "calls", "LStackDepths$Calls;", true)
  | 3 => ("StackDepths$Graph", "outdated", "Z", false)
  | 4 => ("StackDepths$Graph", "plain", "[I", true)
  | 5 => ("StackDepths$Graph", "tails", "[I", true)
  | 6 => ("StackDepths$Graph", "reached", "[I", true)
  | 7 => ("StackDepths$Graph", "together", "[I", true)
  | 8 => ("StackDepths$Graph", "ringed", "I", false)
  | 9 => ("StackDepths$Graph", "leaders", "[I", true)
  | _ => ("StackDepths$Graph", "leading", "I", false)
def tyX2 : Nat → FieldType := fun k => match k with
  | 0 => .object "StackDepths$Routines"
  | 1 => .object "StackDepths$Pointers"
  | 2 => .object "StackDepths$Calls"
  | 3 => .boolean
  | 4 => .array .int
  | 5 => .array .int
  | 6 => .array .int
  | 7 => .array .int
  | 8 => .int
  | 9 => .array .int
  | _ => .int
theorem nmX2 : ∀ a, a < 11 → ∀ b, b < 11 → a ≠ b → (TX2 a).2.1 ≠ (TX2 b).2.1 := by decide +kernel
theorem tyX2_ok : ∀ k, k < 11 → parseFieldDescriptor (TX2 k).2.2.1 = some (tyX2 k) := by decide +kernel
abbrev cX2_init : ByteArray := prog_4_method_1_code
def yX2_init : MethodName := ⟨RX2, "<init>", "(LStackDepths$Routines;LStackDepths$Pointers;LStackDepths$Calls;)V"⟩
abbrev cX2_outdate : ByteArray := prog_4_method_2_code
def yX2_outdate : MethodName := ⟨RX2, "outdate", "()V"⟩
abbrev cX2_refresh : ByteArray := prog_4_method_3_code
def yX2_refresh : MethodName := ⟨RX2, "refresh", "()V"⟩
abbrev cX2_selfAndReached : ByteArray := prog_4_method_4_code
def yX2_selfAndReached : MethodName := ⟨RX2, "selfAndReached", "(I)I"⟩
abbrev cX2_howManyReach : ByteArray := prog_4_method_5_code
def yX2_howManyReach : MethodName := ⟨RX2, "howManyReach", "(I)I"⟩
abbrev cX2_howManyRings : ByteArray := prog_4_method_6_code
def yX2_howManyRings : MethodName := ⟨RX2, "howManyRings", "()I"⟩
abbrev cX2_drawCalls : ByteArray := prog_4_method_7_code
def yX2_drawCalls : MethodName := ⟨RX2, "drawCalls", "()V"⟩
abbrev cX2_closeReach : ByteArray := prog_4_method_8_code
def yX2_closeReach : MethodName := ⟨RX2, "closeReach", "()V"⟩
abbrev cX2_gatherTogether : ByteArray := prog_4_method_9_code
def yX2_gatherTogether : MethodName := ⟨RX2, "gatherTogether", "()V"⟩
abbrev cX2_markRings : ByteArray := prog_4_method_10_code
def yX2_markRings : MethodName := ⟨RX2, "markRings", "()V"⟩
abbrev cX2_orderLeaders : ByteArray := prog_4_method_11_code
def yX2_orderLeaders : MethodName := ⟨RX2, "orderLeaders", "()V"⟩
def RX3 : String := "StackDepths$Interrupts"
def TX3 : u_T := fun k => match k with
  | 0 => ("StackDepths$Interrupts", "ranks", "[I", true)
  | 1 => ("StackDepths$Interrupts", "routines", "[I", true)
  | 2 => ("StackDepths$Interrupts", "saved", "[I", true)
  | _ => ("StackDepths$Interrupts", "size", "I", false)
def tyX3 : Nat → FieldType := fun k => match k with
  | 0 => .array .int
  | 1 => .array .int
  | 2 => .array .int
  | _ => .int
theorem nmX3 : ∀ a, a < 4 → ∀ b, b < 4 → a ≠ b → (TX3 a).2.1 ≠ (TX3 b).2.1 := by decide +kernel
theorem tyX3_ok : ∀ k, k < 4 → parseFieldDescriptor (TX3 k).2.2.1 = some (tyX3 k) := by decide +kernel
abbrev cX3_init : ByteArray := prog_5_method_1_code
def yX3_init : MethodName := ⟨RX3, "<init>", "()V"⟩
abbrev cX3_add : ByteArray := prog_5_method_2_code
def yX3_add : MethodName := ⟨RX3, "add", "(III)I"⟩
abbrev cX3_topAbove : ByteArray := prog_5_method_3_code
def yX3_topAbove : MethodName := ⟨RX3, "topAbove", "(I[I)I"⟩
abbrev cX3_greatestAt : ByteArray := prog_5_method_4_code
def yX3_greatestAt : MethodName := ⟨RX3, "greatestAt", "(I[I)I"⟩
def RX4 : String := "StackDepths$Pointers"
def TX4 : u_T := fun k => match k with
  | 0 => ("StackDepths$Pointers", "taken", "[I", true)
  | 1 => ("StackDepths$Pointers", "sources", "[I", true)
  | _ => ("StackDepths$Pointers", "goals", "[I", true)
def tyX4 : Nat → FieldType := fun k => match k with
  | 0 => .array .int
  | 1 => .array .int
  | _ => .array .int
theorem nmX4 : ∀ a, a < 3 → ∀ b, b < 3 → a ≠ b → (TX4 a).2.1 ≠ (TX4 b).2.1 := by decide +kernel
theorem tyX4_ok : ∀ k, k < 3 → parseFieldDescriptor (TX4 k).2.2.1 = some (tyX4 k) := by decide +kernel
abbrev cX4_init : ByteArray := prog_6_method_1_code
def yX4_init : MethodName := ⟨RX4, "<init>", "()V"⟩
abbrev cX4_addTaken : ByteArray := prog_6_method_2_code
def yX4_addTaken : MethodName := ⟨RX4, "addTaken", "(II)V"⟩
abbrev cX4_addSource : ByteArray := prog_6_method_3_code
def yX4_addSource : MethodName := ⟨RX4, "addSource", "(II)V"⟩
abbrev cX4_spreadGoals : ByteArray := prog_6_method_4_code
def yX4_spreadGoals : MethodName := ⟨RX4, "spreadGoals", "()V"⟩
abbrev cX4_unionOf : ByteArray := prog_6_method_5_code
def yX4_unionOf : MethodName := ⟨RX4, "unionOf", "([II)I"⟩
def RX5 : String := "StackDepths$Routines"
def TX5 : u_T := fun k => match k with
  | 0 => ("StackDepths$Routines", "frames", "[I", true)
  | 1 => ("StackDepths$Routines", "turns", "[I", true)
  | _ => ("StackDepths$Routines", "size", "I", false)
def tyX5 : Nat → FieldType := fun k => match k with
  | 0 => .array .int
  | 1 => .array .int
  | _ => .int
theorem nmX5 : ∀ a, a < 3 → ∀ b, b < 3 → a ≠ b → (TX5 a).2.1 ≠ (TX5 b).2.1 := by decide +kernel
theorem tyX5_ok : ∀ k, k < 3 → parseFieldDescriptor (TX5 k).2.2.1 = some (tyX5 k) := by decide +kernel
abbrev cX5_init : ByteArray := prog_7_method_1_code
def yX5_init : MethodName := ⟨RX5, "<init>", "()V"⟩
abbrev cX5_add : ByteArray := prog_7_method_2_code
def yX5_add : MethodName := ⟨RX5, "add", "(I)I"⟩
abbrev cX5_withoutTurns : ByteArray := prog_7_method_3_code
def yX5_withoutTurns : MethodName := ⟨RX5, "withoutTurns", "()I"⟩
def RX6 : String := "StackDepths$Sharing"
def TX6 : u_T := fun k => match k with
  | 0 => ("StackDepths$Sharing", "rooms", "[I", true)
  | 1 => ("StackDepths$Sharing", "kept", "[I", true)
  | 2 => ("StackDepths$Sharing", "tried", "[I", true)
  | 3 => ("StackDepths$Sharing", "members", "[I", true)
  | 4 => ("StackDepths$Sharing", "widths", "[I", true)
  | _ => ("StackDepths$Sharing", "least", "I", false)
def tyX6 : Nat → FieldType := fun k => match k with
  | 0 => .array .int
  | 1 => .array .int
  | 2 => .array .int
  | 3 => .array .int
  | 4 => .array .int
  | _ => .int
theorem nmX6 : ∀ a, a < 6 → ∀ b, b < 6 → a ≠ b → (TX6 a).2.1 ≠ (TX6 b).2.1 := by decide +kernel
theorem tyX6_ok : ∀ k, k < 6 → parseFieldDescriptor (TX6 k).2.2.1 = some (tyX6 k) := by decide +kernel
abbrev cX6_init : ByteArray := prog_8_method_1_code
def yX6_init : MethodName := ⟨RX6, "<init>", "()V"⟩
abbrev cX6_divide : ByteArray := prog_8_method_2_code
def yX6_divide : MethodName := ⟨RX6, "divide", "(LStackDepths$Tasks;)I"⟩
abbrev cX6_place : ByteArray := prog_8_method_3_code
def yX6_place : MethodName := ⟨RX6, "place", "(LStackDepths$Tasks;III)V"⟩
abbrev cX6_keep : ByteArray := prog_8_method_4_code
def yX6_keep : MethodName := ⟨RX6, "keep", "(I)V"⟩
def RX7 : String := "StackDepths$Sheet"
def TX7 : u_T := fun k => match k with
  | 0 => ("StackDepths$Sheet", "cells", "[I", true)
  | 1 => ("StackDepths$Sheet", "lane", "I", false)
  | _ => ("StackDepths$Sheet", "length", "I", false)
def tyX7 : Nat → FieldType := fun k => match k with
  | 0 => .array .int
  | 1 => .int
  | _ => .int
theorem nmX7 : ∀ a, a < 3 → ∀ b, b < 3 → a ≠ b → (TX7 a).2.1 ≠ (TX7 b).2.1 := by decide +kernel
theorem tyX7_ok : ∀ k, k < 3 → parseFieldDescriptor (TX7 k).2.2.1 = some (tyX7 k) := by decide +kernel
abbrev cX7_init : ByteArray := prog_9_method_1_code
def yX7_init : MethodName := ⟨RX7, "<init>", "()V"⟩
abbrev cX7_isNothing : ByteArray := prog_9_method_2_code
def yX7_isNothing : MethodName := ⟨RX7, "isNothing", "()Z"⟩
abbrev cX7_makeNew : ByteArray := prog_9_method_3_code
def yX7_makeNew : MethodName := ⟨RX7, "makeNew", "(II)V"⟩
abbrev cX7_put : ByteArray := prog_9_method_4_code
def yX7_put : MethodName := ⟨RX7, "put", "(II)V"⟩
abbrev cX7_holdsCall : ByteArray := prog_9_method_5_code
def yX7_holdsCall : MethodName := ⟨RX7, "holdsCall", "(II)Z"⟩
def RX8 : String := "StackDepths$Tasks"
def TX8 : u_T := fun k => match k with
  | 0 => ("StackDepths$Tasks", "routines", "[I", true)
  | 1 => ("StackDepths$Tasks", "ranks", "[I", true)
  | 2 => ("StackDepths$Tasks", "guards", "[I", true)
  | 3 => ("StackDepths$Tasks", "apart", "[I", true)
  | _ => ("StackDepths$Tasks", "size", "I", false)
def tyX8 : Nat → FieldType := fun k => match k with
  | 0 => .array .int
  | 1 => .array .int
  | 2 => .array .int
  | 3 => .array .int
  | _ => .int
theorem nmX8 : ∀ a, a < 5 → ∀ b, b < 5 → a ≠ b → (TX8 a).2.1 ≠ (TX8 b).2.1 := by decide +kernel
theorem tyX8_ok : ∀ k, k < 5 → parseFieldDescriptor (TX8 k).2.2.1 = some (tyX8 k) := by decide +kernel
abbrev cX8_init : ByteArray := prog_10_method_1_code
def yX8_init : MethodName := ⟨RX8, "<init>", "()V"⟩
abbrev cX8_add : ByteArray := prog_10_method_2_code
def yX8_add : MethodName := ⟨RX8, "add", "(III)I"⟩
abbrev cX8_setApart : ByteArray := prog_10_method_3_code
def yX8_setApart : MethodName := ⟨RX8, "setApart", "(IIZ)V"⟩
def RX9 : String := "StackDepths$Trail"
def TX9 : u_T := fun k => match k with
  | 0 => ("StackDepths$Trail", "standing", "[I", true)
  | 1 => ("StackDepths$Trail", "framed", "[I", true)
  | 2 => ("StackDepths$Trail", "height", "I", false)
  | 3 => ("StackDepths$Trail", "deep", "I", false)
  | 4 => ("StackDepths$Trail", "deepest", "I", false)
  | 5 => ("StackDepths$Trail", "strange", "I", false)
  | 6 => ("StackDepths$Trail", "tooOften", "I", false)
  | _ => ("StackDepths$Trail", "first", "I", false)
def tyX9 : Nat → FieldType := fun k => match k with
  | 0 => .array .int
  | 1 => .array .int
  | 2 => .int
  | 3 => .int
  | 4 => .int
  | 5 => .int
  | 6 => .int
  | _ => .int
theorem nmX9 : ∀ a, a < 8 → ∀ b, b < 8 → a ≠ b → (TX9 a).2.1 ≠ (TX9 b).2.1 := by decide +kernel
theorem tyX9_ok : ∀ k, k < 8 → parseFieldDescriptor (TX9 k).2.2.1 = some (tyX9 k) := by decide +kernel
abbrev cX9_init : ByteArray := prog_11_method_1_code
def yX9_init : MethodName := ⟨RX9, "<init>", "()V"⟩
abbrev cX9_begin : ByteArray := prog_11_method_2_code
def yX9_begin : MethodName := ⟨RX9, "begin", "(I)V"⟩
abbrev cX9_push : ByteArray := prog_11_method_3_code
def yX9_push : MethodName := ⟨RX9, "push", "(II)V"⟩
abbrev cX9_pop : ByteArray := prog_11_method_4_code
def yX9_pop : MethodName := ⟨RX9, "pop", "()V"⟩
abbrev cX9_onTop : ByteArray := prog_11_method_5_code
def yX9_onTop : MethodName := ⟨RX9, "onTop", "()I"⟩
abbrev cX9_markStep : ByteArray := prog_11_method_6_code
def yX9_markStep : MethodName := ⟨RX9, "markStep", "(Z)V"⟩
abbrev cX9_howOften : ByteArray := prog_11_method_7_code
def yX9_howOften : MethodName := ⟨RX9, "howOften", "(I)I"⟩
def RX10 : String := "StackDepths"
def TX10 : u_T := fun k => match k with
  | 0 => ("StackDepths", "routines", "LStackDepths$Routines;", true)
  | 1 => ("StackDepths", "pointers", "LStackDepths$Pointers;", true)
  | 2 => ("StackDepths", "calls", "LStackDepths$Calls;", true)
  | 3 => ("StackDepths", "graph", "LStackDepths$Graph;", true)
  | 4 => ("StackDepths", "depths", "LStackDepths$Depths;", true)
  | 5 => ("StackDepths", "interrupts", "LStackDepths$Interrupts;", true)
  | 6 => ("StackDepths", "tasks", "LStackDepths$Tasks;", true)
  | 7 => ("StackDepths", "sharing", "LStackDepths$Sharing;", true)
  | 8 => ("StackDepths", "trail", "LStackDepths$Trail;", true)
  | _ => ("StackDepths", "sheets", "[LStackDepths$Sheet;", true)
def tyX10 : Nat → FieldType := fun k => match k with
  | 0 => .object "StackDepths$Routines"
  | 1 => .object "StackDepths$Pointers"
  | 2 => .object "StackDepths$Calls"
  | 3 => .object "StackDepths$Graph"
  | 4 => .object "StackDepths$Depths"
  | 5 => .object "StackDepths$Interrupts"
  | 6 => .object "StackDepths$Tasks"
  | 7 => .object "StackDepths$Sharing"
  | 8 => .object "StackDepths$Trail"
  | _ => .array (.object "StackDepths$Sheet")
theorem nmX10 : ∀ a, a < 10 → ∀ b, b < 10 → a ≠ b → (TX10 a).2.1 ≠ (TX10 b).2.1 := by decide +kernel
theorem tyX10_ok : ∀ k, k < 10 → parseFieldDescriptor (TX10 k).2.2.1 = some (tyX10 k) := by decide +kernel
abbrev cX10_init : ByteArray := prog_1_method_1_code
def yX10_init : MethodName := ⟨RX10, "<init>", "()V"⟩
abbrev cX10_routine : ByteArray := prog_1_method_2_code
def yX10_routine : MethodName := ⟨RX10, "routine", "(I)I"⟩
abbrev cX10_frame : ByteArray := prog_1_method_3_code
def yX10_frame : MethodName := ⟨RX10, "frame", "(II)I"⟩
abbrev cX10_turns : ByteArray := prog_1_method_4_code
def yX10_turns : MethodName := ⟨RX10, "turns", "(II)I"⟩
abbrev cX10_call : ByteArray := prog_1_method_5_code
def yX10_call : MethodName := ⟨RX10, "call", "(IIZZ)I"⟩
abbrev cX10_cut : ByteArray := prog_1_method_6_code
def yX10_cut : MethodName := ⟨RX10, "cut", "(IIZZ)I"⟩
abbrev cX10_take : ByteArray := prog_1_method_7_code
def yX10_take : MethodName := ⟨RX10, "take", "(II)I"⟩
abbrev cX10_flow : ByteArray := prog_1_method_8_code
def yX10_flow : MethodName := ⟨RX10, "flow", "(II)I"⟩
abbrev cX10_goals : ByteArray := prog_1_method_9_code
def yX10_goals : MethodName := ⟨RX10, "goals", "(I)I"⟩
abbrev cX10_about : ByteArray := prog_1_method_10_code
def yX10_about : MethodName := ⟨RX10, "about", "(II)I"⟩
abbrev cX10_depth : ByteArray := prog_1_method_11_code
def yX10_depth : MethodName := ⟨RX10, "depth", "(I)I"⟩
abbrev cX10_way : ByteArray := prog_1_method_12_code
def yX10_way : MethodName := ⟨RX10, "way", "(II)I"⟩
abbrev cX10_endless : ByteArray := prog_1_method_13_code
def yX10_endless : MethodName := ⟨RX10, "endless", "(I)I"⟩
abbrev cX10_interrupt : ByteArray := prog_1_method_14_code
def yX10_interrupt : MethodName := ⟨RX10, "interrupt", "(III)I"⟩
abbrev cX10_task : ByteArray := prog_1_method_15_code
def yX10_task : MethodName := ⟨RX10, "task", "(III)I"⟩
abbrev cX10_total : ByteArray := prog_1_method_16_code
def yX10_total : MethodName := ⟨RX10, "total", "(II)I"⟩
abbrev cX10_apart : ByteArray := prog_1_method_17_code
def yX10_apart : MethodName := ⟨RX10, "apart", "(IIZ)I"⟩
abbrev cX10_shared : ByteArray := prog_1_method_18_code
def yX10_shared : MethodName := ⟨RX10, "shared", "()I"⟩
abbrev cX10_group : ByteArray := prog_1_method_19_code
def yX10_group : MethodName := ⟨RX10, "group", "(I)I"⟩
abbrev cX10_saves : ByteArray := prog_1_method_20_code
def yX10_saves : MethodName := ⟨RX10, "saves", "(II)I"⟩
abbrev cX10_best : ByteArray := prog_1_method_21_code
def yX10_best : MethodName := ⟨RX10, "best", "(I)I"⟩
abbrev cX10_run : ByteArray := prog_1_method_22_code
def yX10_run : MethodName := ⟨RX10, "run", "(I)I"⟩
abbrev cX10_enter : ByteArray := prog_1_method_23_code
def yX10_enter : MethodName := ⟨RX10, "enter", "(I)I"⟩
abbrev cX10_over : ByteArray := prog_1_method_24_code
def yX10_over : MethodName := ⟨RX10, "over", "(I)I"⟩
abbrev cX10_leave : ByteArray := prog_1_method_25_code
def yX10_leave : MethodName := ⟨RX10, "leave", "()I"⟩
abbrev cX10_ran : ByteArray := prog_1_method_26_code
def yX10_ran : MethodName := ⟨RX10, "ran", "(I)I"⟩
abbrev cX10_sheet : ByteArray := prog_1_method_27_code
def yX10_sheet : MethodName := ⟨RX10, "sheet", "(III)I"⟩
abbrev cX10_lay : ByteArray := prog_1_method_28_code
def yX10_lay : MethodName := ⟨RX10, "lay", "(III)I"⟩
abbrev cX10_scan : ByteArray := prog_1_method_29_code
def yX10_scan : MethodName := ⟨RX10, "scan", "(IIII)I"⟩
abbrev cX10_count : ByteArray := prog_1_method_30_code
def yX10_count : MethodName := ⟨RX10, "count", "(I)I"⟩
abbrev cX10_isRoutine : ByteArray := prog_1_method_31_code
def yX10_isRoutine : MethodName := ⟨RX10, "isRoutine", "(I)Z"⟩
abbrev cX10_isPointer : ByteArray := prog_1_method_32_code
def yX10_isPointer : MethodName := ⟨RX10, "isPointer", "(I)Z"⟩
abbrev cX10_isTask : ByteArray := prog_1_method_33_code
def yX10_isTask : MethodName := ⟨RX10, "isTask", "(I)Z"⟩
abbrev cX10_isSheet : ByteArray := prog_1_method_34_code
def yX10_isSheet : MethodName := ⟨RX10, "isSheet", "(I)Z"⟩
abbrev cX10_isLane : ByteArray := prog_1_method_35_code
def yX10_isLane : MethodName := ⟨RX10, "isLane", "(I)Z"⟩
abbrev cX10_within : ByteArray := prog_1_method_36_code
def yX10_within : MethodName := ⟨RX10, "within", "(III)Z"⟩
abbrev cX10_holds : ByteArray := prog_1_method_37_code
def yX10_holds : MethodName := ⟨RX10, "holds", "(II)Z"⟩
abbrev cX10_leastOf : ByteArray := prog_1_method_38_code
def yX10_leastOf : MethodName := ⟨RX10, "leastOf", "(I)I"⟩
abbrev cX10_plus : ByteArray := prog_1_method_39_code
def yX10_plus : MethodName := ⟨RX10, "plus", "(II)I"⟩
abbrev cX10_greater : ByteArray := prog_1_method_40_code
def yX10_greater : MethodName := ⟨RX10, "greater", "(II)I"⟩
abbrev cX10_kindOf : ByteArray := prog_1_method_41_code
def yX10_kindOf : MethodName := ⟨RX10, "kindOf", "(ZZ)I"⟩
abbrev cX10_canBeCall : ByteArray := prog_1_method_42_code
def yX10_canBeCall : MethodName := ⟨RX10, "canBeCall", "(III)Z"⟩
abbrev cX10_refusalOfCall : ByteArray := prog_1_method_43_code
def yX10_refusalOfCall : MethodName := ⟨RX10, "refusalOfCall", "(III)I"⟩
abbrev cX10_addFromSheet : ByteArray := prog_1_method_44_code
def yX10_addFromSheet : MethodName := ⟨RX10, "addFromSheet", "(LStackDepths$Sheet;II)I"⟩
abbrev cX10_removeFromSheet : ByteArray := prog_1_method_45_code
def yX10_removeFromSheet : MethodName := ⟨RX10, "removeFromSheet", "(LStackDepths$Sheet;II)V"⟩
abbrev cX10_totalAsMeasured : ByteArray := prog_1_method_46_code
def yX10_totalAsMeasured : MethodName := ⟨RX10, "totalAsMeasured", "(I)I"⟩
abbrev cX10_roomAsMeasured : ByteArray := prog_1_method_47_code
def yX10_roomAsMeasured : MethodName := ⟨RX10, "roomAsMeasured", "(I)I"⟩
abbrev cX10_totalWithout : ByteArray := prog_1_method_48_code
def yX10_totalWithout : MethodName := ⟨RX10, "totalWithout", "(II)I"⟩
abbrev cX10_shareRooms : ByteArray := prog_1_method_49_code
def yX10_shareRooms : MethodName := ⟨RX10, "shareRooms", "()I"⟩
abbrev cX10_pushMarked : ByteArray := prog_1_method_50_code
def yX10_pushMarked : MethodName := ⟨RX10, "pushMarked", "(I)I"⟩
abbrev cX10_stayedWithinDepth : ByteArray := prog_1_method_51_code
def yX10_stayedWithinDepth : MethodName := ⟨RX10, "stayedWithinDepth", "()Z"⟩
def RX11 : String := "StackDepthsModel"
def TX11 : u_T := fun k => match k with
  | 0 => ("StackDepthsModel", "routines", "I", false)
  | 1 => ("StackDepthsModel", "frames", "[I", true)
  | 2 => ("StackDepthsModel", "turnsOf", "[I", true)
  | 3 => ("StackDepthsModel", "calls", "I", false)
  | 4 => ("StackDepthsModel", "callFrom", "[I", true)
  | 5 => ("StackDepthsModel", "callTo", "[I", true)
  | 6 => ("StackDepthsModel", "callSort", "[I", true)
  | 7 => ("StackDepthsModel", "taken", "[I", true)
  | 8 => ("StackDepthsModel", "flows", "[I", true)
  | 9 => ("StackDepthsModel", "goalsOf", "[I", true)
  | 10 => ("StackDepthsModel", "plain", "[I", true)
  | 11 => ("StackDepthsModel", "tails", "[I", true)
  | 12 => ("StackDepthsModel", "reached", "[I", true)
  | 13 => ("StackDepthsModel", "together", "[I", true)
  | 14 => ("StackDepthsModel", "depths", "[I", true)
  | 15 => ("StackDepthsModel", "interrupts", "I", false)
  | 16 => ("StackDepthsModel", "ranks", "[I", true)
  | 17 => ("StackDepthsModel", "handlers", "[I", true)
  | 18 => ("StackDepthsModel", "saved", "[I", true)
  | 19 => ("StackDepthsModel", "tasks", "I", false)
  | 20 => ("StackDepthsModel", "mains", "[I", true)
  | 21 => ("StackDepthsModel", "taskRank", "[I", true)
  | 22 => ("StackDepthsModel", "guards", "[I", true)
  | 23 => ("StackDepthsModel", "apartOf", "[I", true)
  | 24 => ("StackDepthsModel", "groups", "[I", true)
  | 25 => ("StackDepthsModel", "leastGroups", "[I", true)
  | 26 => ("StackDepthsModel", "leastSum", "I", false)
  | 27 => ("StackDepthsModel", "wasRun", "Z", false)
  | 28 => ("StackDepthsModel", "height", "I", false)
  | 29 => ("StackDepthsModel", "stack", "[I", true)
  | 30 => ("StackDepthsModel", "size", "[I", true)
  | 31 => ("StackDepthsModel", "firstOne", "I", false)
  | 32 => ("StackDepthsModel", "deep", "I", false)
  | 33 => ("StackDepthsModel", "deepest", "I", false)
  | 34 => ("StackDepthsModel", "strange", "I", false)
  | 35 => ("StackDepthsModel", "often", "I", false)
  | 36 => ("StackDepthsModel", "lanes", "[I", true)
  | 37 => ("StackDepthsModel", "lengths", "[I", true)
  | _ => ("StackDepthsModel", "cells", "[I", true)
def tyX11 : Nat → FieldType := fun k => match k with
  | 0 => .int
  | 1 => .array .int
  | 2 => .array .int
  | 3 => .int
  | 4 => .array .int
  | 5 => .array .int
  | 6 => .array .int
  | 7 => .array .int
  | 8 => .array .int
  | 9 => .array .int
  | 10 => .array .int
  | 11 => .array .int
  | 12 => .array .int
  | 13 => .array .int
  | 14 => .array .int
  | 15 => .int
  | 16 => .array .int
  | 17 => .array .int
  | 18 => .array .int
  | 19 => .int
  | 20 => .array .int
  | 21 => .array .int
  | 22 => .array .int
  | 23 => .array .int
  | 24 => .array .int
  | 25 => .array .int
  | 26 => .int
  | 27 => .boolean
  | 28 => .int
  | 29 => .array .int
  | 30 => .array .int
  | 31 => .int
  | 32 => .int
  | 33 => .int
  | 34 => .int
  | 35 => .int
  | 36 => .array .int
  | 37 => .array .int
  | _ => .array .int
theorem nmX11 : ∀ a, a < 39 → ∀ b, b < 39 → a ≠ b → (TX11 a).2.1 ≠ (TX11 b).2.1 := by decide +kernel
theorem tyX11_ok : ∀ k, k < 39 → parseFieldDescriptor (TX11 k).2.2.1 = some (tyX11 k) := by decide +kernel
abbrev cX11_init : ByteArray := prog_13_method_1_code
def yX11_init : MethodName := ⟨RX11, "<init>", "()V"⟩
abbrev cX11_in : ByteArray := prog_13_method_3_code
def yX11_in : MethodName := ⟨RX11, "in", "(JJJ)Z"⟩
abbrev cX11_is : ByteArray := prog_13_method_4_code
def yX11_is : MethodName := ⟨RX11, "is", "(I)Z"⟩
abbrev cX11_isPointer : ByteArray := prog_13_method_5_code
def yX11_isPointer : MethodName := ⟨RX11, "isPointer", "(I)Z"⟩
abbrev cX11_routine : ByteArray := prog_13_method_6_code
def yX11_routine : MethodName := ⟨RX11, "routine", "(I)I"⟩
abbrev cX11_frame : ByteArray := prog_13_method_7_code
def yX11_frame : MethodName := ⟨RX11, "frame", "(II)I"⟩
abbrev cX11_turns : ByteArray := prog_13_method_8_code
def yX11_turns : MethodName := ⟨RX11, "turns", "(II)I"⟩
abbrev cX11_find : ByteArray := prog_13_method_9_code
def yX11_find : MethodName := ⟨RX11, "find", "(III)I"⟩
abbrev cX11_called : ByteArray := prog_13_method_10_code
def yX11_called : MethodName := ⟨RX11, "called", "(III)I"⟩
abbrev cX11_sortOf : ByteArray := prog_13_method_11_code
def yX11_sortOf : MethodName := ⟨RX11, "sortOf", "(ZZ)I"⟩
abbrev cX11_call : ByteArray := prog_13_method_12_code
def yX11_call : MethodName := ⟨RX11, "call", "(IIZZ)I"⟩
abbrev cX11_cut : ByteArray := prog_13_method_13_code
def yX11_cut : MethodName := ⟨RX11, "cut", "(IIZZ)I"⟩
abbrev cX11_take : ByteArray := prog_13_method_14_code
def yX11_take : MethodName := ⟨RX11, "take", "(II)I"⟩
abbrev cX11_flow : ByteArray := prog_13_method_15_code
def yX11_flow : MethodName := ⟨RX11, "flow", "(II)I"⟩
abbrev cX11_layGoals : ByteArray := prog_13_method_16_code
def yX11_layGoals : MethodName := ⟨RX11, "layGoals", "()V"⟩
abbrev cX11_goals : ByteArray := prog_13_method_17_code
def yX11_goals : MethodName := ⟨RX11, "goals", "(I)I"⟩
abbrev cX11_layNet : ByteArray := prog_13_method_18_code
def yX11_layNet : MethodName := ⟨RX11, "layNet", "()V"⟩
abbrev cX11_isRing : ByteArray := prog_13_method_19_code
def yX11_isRing : MethodName := ⟨RX11, "isRing", "(I)Z"⟩
abbrev cX11_leastOf : ByteArray := prog_13_method_20_code
def yX11_leastOf : MethodName := ⟨RX11, "leastOf", "(I)I"⟩
abbrev cX11_sizeOf : ByteArray := prog_13_method_21_code
def yX11_sizeOf : MethodName := ⟨RX11, "sizeOf", "(I)I"⟩
abbrev cX11_about : ByteArray := prog_13_method_22_code
def yX11_about : MethodName := ⟨RX11, "about", "(II)I"⟩
abbrev cX11_greatest : ByteArray := prog_13_method_23_code
def yX11_greatest : MethodName := ⟨RX11, "greatest", "(I)I"⟩
abbrev cX11_own : ByteArray := prog_13_method_24_code
def yX11_own : MethodName := ⟨RX11, "own", "(I)I"⟩
abbrev cX11_reckoned : ByteArray := prog_13_method_25_code
def yX11_reckoned : MethodName := ⟨RX11, "reckoned", "(I)I"⟩
abbrev cX11_layDepths : ByteArray := prog_13_method_26_code
def yX11_layDepths : MethodName := ⟨RX11, "layDepths", "()V"⟩
abbrev cX11_depth : ByteArray := prog_13_method_27_code
def yX11_depth : MethodName := ⟨RX11, "depth", "(I)I"⟩
abbrev cX11_reachesRing : ByteArray := prog_13_method_28_code
def yX11_reachesRing : MethodName := ⟨RX11, "reachesRing", "(I)Z"⟩
abbrev cX11_nextOf : ByteArray := prog_13_method_29_code
def yX11_nextOf : MethodName := ⟨RX11, "nextOf", "(I)I"⟩
abbrev cX11_way : ByteArray := prog_13_method_30_code
def yX11_way : MethodName := ⟨RX11, "way", "(II)I"⟩
abbrev cX11_endless : ByteArray := prog_13_method_31_code
def yX11_endless : MethodName := ⟨RX11, "endless", "(I)I"⟩
abbrev cX11_interrupt : ByteArray := prog_13_method_32_code
def yX11_interrupt : MethodName := ⟨RX11, "interrupt", "(III)I"⟩
abbrev cX11_task : ByteArray := prog_13_method_33_code
def yX11_task : MethodName := ⟨RX11, "task", "(III)I"⟩
abbrev cX11_isTask : ByteArray := prog_13_method_34_code
def yX11_isTask : MethodName := ⟨RX11, "isTask", "(I)Z"⟩
abbrev cX11_top : ByteArray := prog_13_method_35_code
def yX11_top : MethodName := ⟨RX11, "top", "(I)I"⟩
abbrev cX11_totalOf : ByteArray := prog_13_method_36_code
def yX11_totalOf : MethodName := ⟨RX11, "totalOf", "(I)I"⟩
abbrev cX11_total : ByteArray := prog_13_method_37_code
def yX11_total : MethodName := ⟨RX11, "total", "(II)I"⟩
abbrev cX11_apart : ByteArray := prog_13_method_38_code
def yX11_apart : MethodName := ⟨RX11, "apart", "(IIZ)I"⟩
abbrev cX11_sumOf : ByteArray := prog_13_method_39_code
def yX11_sumOf : MethodName := ⟨RX11, "sumOf", "()I"⟩
abbrev cX11_highest : ByteArray := prog_13_method_40_code
def yX11_highest : MethodName := ⟨RX11, "highest", "(I)I"⟩
abbrev cX11_nextWay : ByteArray := prog_13_method_41_code
def yX11_nextWay : MethodName := ⟨RX11, "nextWay", "()Z"⟩
abbrev cX11_share : ByteArray := prog_13_method_42_code
def yX11_share : MethodName := ⟨RX11, "share", "()Z"⟩
abbrev cX11_shared : ByteArray := prog_13_method_43_code
def yX11_shared : MethodName := ⟨RX11, "shared", "()I"⟩
abbrev cX11_group : ByteArray := prog_13_method_44_code
def yX11_group : MethodName := ⟨RX11, "group", "(I)I"⟩
abbrev cX11_savesOf : ByteArray := prog_13_method_45_code
def yX11_savesOf : MethodName := ⟨RX11, "savesOf", "(II)I"⟩
abbrev cX11_saves : ByteArray := prog_13_method_46_code
def yX11_saves : MethodName := ⟨RX11, "saves", "(II)I"⟩
abbrev cX11_best : ByteArray := prog_13_method_47_code
def yX11_best : MethodName := ⟨RX11, "best", "(I)I"⟩
abbrev cX11_put : ByteArray := prog_13_method_48_code
def yX11_put : MethodName := ⟨RX11, "put", "(I)V"⟩
abbrev cX11_pull : ByteArray := prog_13_method_49_code
def yX11_pull : MethodName := ⟨RX11, "pull", "()V"⟩
abbrev cX11_run : ByteArray := prog_13_method_50_code
def yX11_run : MethodName := ⟨RX11, "run", "(I)I"⟩
abbrev cX11_enter : ByteArray := prog_13_method_51_code
def yX11_enter : MethodName := ⟨RX11, "enter", "(I)I"⟩
abbrev cX11_over : ByteArray := prog_13_method_52_code
def yX11_over : MethodName := ⟨RX11, "over", "(I)I"⟩
abbrev cX11_leave : ByteArray := prog_13_method_53_code
def yX11_leave : MethodName := ⟨RX11, "leave", "()I"⟩
abbrev cX11_ran : ByteArray := prog_13_method_54_code
def yX11_ran : MethodName := ⟨RX11, "ran", "(I)I"⟩
abbrev cX11_sheet : ByteArray := prog_13_method_55_code
def yX11_sheet : MethodName := ⟨RX11, "sheet", "(III)I"⟩
abbrev cX11_lay : ByteArray := prog_13_method_56_code
def yX11_lay : MethodName := ⟨RX11, "lay", "(III)I"⟩
abbrev cX11_scan : ByteArray := prog_13_method_57_code
def yX11_scan : MethodName := ⟨RX11, "scan", "(IIII)I"⟩
abbrev cX11_count : ByteArray := prog_13_method_58_code
def yX11_count : MethodName := ⟨RX11, "count", "(I)I"⟩
def RJ6 : String := "java/lang/Integer"
def TJ6 : u_T := fun k => match k with
  | _ => ("", "", "", false)
def tyJ6 : Nat → FieldType := fun k => match k with
  | _ => .int
abbrev cJ6_bitCount_0f7a4 : ByteArray := prog_14_method_49_code
def yJ6_bitCount_0f7a4 : MethodName := ⟨RJ6, "bitCount", "(I)I"⟩
def RJ9 : String := "java/lang/Math"
def TJ9 : u_T := fun k => match k with
  | _ => ("", "", "", false)
def tyJ9 : Nat → FieldType := fun k => match k with
  | _ => .int
abbrev cJ9_max_7cf53 : ByteArray := prog_15_method_65_code
def yJ9_max_7cf53 : MethodName := ⟨RJ9, "max", "(II)I"⟩
abbrev cJ9_min_7cf53 : ByteArray := prog_15_method_69_code
def yJ9_min_7cf53 : MethodName := ⟨RJ9, "min", "(II)I"⟩
def RL : String := "StackDepthsLaw"
abbrev cL_law : ByteArray := code
def yL_law : MethodName := ⟨RL, "law", "([I)Z"⟩
abbrev vwCl : List vw_C := [(RX0, TX0, 2), (RX1, TX1, 4), (RX2, TX2, 11), (RX3, TX3, 4), (RX4, TX4, 3), (RX5, TX5, 3), (RX6, TX6, 6), (RX7, TX7, 3), (RX8, TX8, 5), (RX9, TX9, 8), (RX10, TX10, 10), (RX11, TX11, 39)]
end
section
/-! the pure layer: a memory of ints over a fixed shape of cells; judgements PW (a point of a method) and CT (a call), shallow over the kit's W and Met -/
abbrev pw_Lay : Type := Launch × (Nat → ClassId) × (Nat → Nat → Nat) × (Nat → Nat) × ClassId × ClassId × ClassId
abbrev pw_l (L : pw_Lay) : Launch := L.1
abbrev pw_G (L : pw_Lay) : va_G := (L.2.1, L.2.2.1)
abbrev pw_ad (L : pw_Lay) : Nat → Nat := L.2.2.2.1
abbrev pw_cI (L : pw_Lay) : ClassId := L.2.2.2.2.1
abbrev pw_cB (L : pw_Lay) : ClassId := L.2.2.2.2.2.1
abbrev pw_cS (L : pw_Lay) : ClassId := L.2.2.2.2.2.2
abbrev pw_Mem : Type := Nat → Nat → Int32
abbrev pw_Sh : Type := (Nat × List (Option Nat)) ⊕ (Nat ⊕ (Nat × List Nat))
/-- a method: its name, its class, its bytes, its locals, what it returns -/
abbrev pw_Md : Type := MethodName × String × ByteArray × Nat × Option FieldType
def pw_shp : List pw_Sh := [.inl (10, [some 1, some 4, some 8, some 14, some 20, some 22, some 26, some 31, some 37, some 40]), .inl (5, [some 2, some 3, none]), .inr (.inl 20), .inr (.inl 20), .inl (4, [some 5, some 6, some 7]), .inr (.inl 8), .inr (.inl 8), .inr (.inl 8), .inl (0, [some 9, none]), .inr (.inr (0, [10, 11, 12, 13])), .inr (.inl 20), .inr (.inl 20), .inr (.inl 20), .inr (.inl 20), .inl (2, [some 1, some 4, some 8, none, some 15, some 16, some 17, some 18, none, some 19, none]), .inr (.inl 20), .inr (.inl 20), .inr (.inl 20), .inr (.inl 20), .inr (.inl 20), .inl (1, [some 1, some 14, none, some 21]), .inr (.inl 20), .inl (3, [some 23, some 24, some 25, none]), .inr (.inl 8), .inr (.inl 8), .inr (.inl 8), .inl (8, [some 27, some 28, some 29, some 30, none]), .inr (.inl 6), .inr (.inl 6), .inr (.inl 6), .inr (.inl 6), .inl (6, [some 32, some 33, some 34, some 35, some 36, none]), .inr (.inl 6), .inr (.inl 6), .inr (.inl 6), .inr (.inl 6), .inr (.inl 6), .inl (9, [some 38, some 39, none, none, none, none, none, none]), .inr (.inl 40), .inr (.inl 40), .inr (.inr (1, [41, 43, 45, 47])), .inl (7, [some 42, none, none]), .inr (.inl 60), .inl (7, [some 44, none, none]), .inr (.inl 60), .inl (7, [some 46, none, none]), .inr (.inl 60), .inl (7, [some 48, none, none]), .inr (.inl 60), .inl (11, [none, some 50, some 51, none, some 52, some 53, some 54, some 55, some 56, some 57, some 58, some 59, some 60, some 61, some 62, none, some 63, some 64, some 65, none, some 66, some 67, some 68, some 69, some 70, some 71, none, none, none, some 72, some 73, none, none, none, none, none, some 74, some 75, some 76]), .inr (.inl 20), .inr (.inl 20), .inr (.inl 60), .inr (.inl 60), .inr (.inl 60), .inr (.inl 8), .inr (.inl 8), .inr (.inl 8), .inr (.inl 20), .inr (.inl 20), .inr (.inl 20), .inr (.inl 20), .inr (.inl 20), .inr (.inl 8), .inr (.inl 8), .inr (.inl 8), .inr (.inl 6), .inr (.inl 6), .inr (.inl 6), .inr (.inl 6), .inr (.inl 6), .inr (.inl 6), .inr (.inl 40), .inr (.inl 40), .inr (.inl 4), .inr (.inl 4), .inr (.inl 240)]
def pw_tr (L : pw_Lay) : Value → Value
  | .ref k => .ref (pw_ad L k)
  | v => v
def pw_up (σ : pw_Mem) (k j : Nat) (v : Int32) : pw_Mem := fun a b => if a = k ∧ b = j then v else σ a b
def pw_fv (L : pw_Lay) (σ : pw_Mem) (k j : Nat) : Option Nat → Value
  | none => .int (σ k j)
  | some r => .ref (pw_ad L r)
def pw_fld (L : pw_Lay) (σ : pw_Mem) (k : Nat) (fs : List (Option Nat)) : List Value := fs.mapIdx (fun j f => pw_fv L σ k j f)
def pw_ent (L : pw_Lay) (σ : pw_Mem) (k : Nat) : pw_Sh → va_E
  | .inl (ci, fs) => .inr (ci, pw_fld L σ k fs)
  | .inr (.inl n) => .inl (pw_cI L, n, .inl (σ k))
  | .inr (.inr (0, rs)) => .inl (pw_cB L, rs.length, .inr (.inr (.inr (.inr (fun i => rs[i]?.map (pw_ad L))))))
  | .inr (.inr (_, rs)) => .inl (pw_cS L, rs.length, .inr (.inr (.inr (.inr (fun i => rs[i]?.map (pw_ad L))))))
def pw_wl (L : pw_Lay) (σ : pw_Mem) : va_W := pw_shp.mapIdx (fun k sh => (pw_ad L k, pw_ent L σ k sh))
abbrev pw_tys (L : pw_Lay) : List (ClassId × FieldType) := [(pw_cI L, .int), (pw_cB L, .array .int), (pw_cS L, .object "StackDepths$Sheet")]
def pw_A (L : pw_Lay) : Nat → Prop := fun q => ∃ k, k < pw_shp.length ∧ q = pw_ad L k
def pw_ws : List Cond := lw_tbl.filter goodWord
theorem pw_in {w : Cond} (h : w ∈ lw_tbl) (hg : goodWord w = true) : w ∈ pw_ws := List.mem_filter.mpr ⟨h, hg⟩
theorem pw_good {ws : List Cond} (h : ∀ w ∈ ws, w ∈ pw_ws) : GoodIn pw_ws ws := fun w hw => ⟨h w hw, good_of_word (List.mem_filter.mp (h w hw)).2⟩
theorem pw_tab {w : Cond} (i : Nat) (h : tables_1[i]? = some w) (hg : goodWord w = true) : w ∈ pw_ws := pw_in (List.mem_append_right _ (List.mem_of_getElem? h)) hg
theorem pw_sel {w : Cond} (i : Nat) (h : (k2_sels lw_privs)[i]? = some w) (hg : goodWord w = true) : w ∈ pw_ws := pw_in (List.mem_append_left _ (List.mem_of_getElem? h)) hg
/-- the nest mates' links -/
abbrev pw_nw (q : String × Nat × MethodName) : Cond := .methodLinkNest q.1 q.2.1 q.2.2 "StackDepths"
def pw_nest : List (String × Nat × MethodName) := [("StackDepths", 9, ⟨"StackDepths$Routines", "<init>", "()V"⟩), ("StackDepths", 18, ⟨"StackDepths$Pointers", "<init>", "()V"⟩), ("StackDepths", 25, ⟨"StackDepths$Calls", "<init>", "()V"⟩), ("StackDepths", 50, ⟨"StackDepths$Interrupts", "<init>", "()V"⟩), ("StackDepths", 57, ⟨"StackDepths$Tasks", "<init>", "()V"⟩), ("StackDepths", 64, ⟨"StackDepths$Sharing", "<init>", "()V"⟩), ("StackDepths", 71, ⟨"StackDepths$Trail", "<init>", "()V"⟩), ("StackDepths", 82, ⟨"StackDepths$Sheet", "<init>", "()V"⟩), ("StackDepths$Calls", 16, ⟨"StackDepths", "holds", "(II)Z"⟩), ("StackDepths$Pointers", 28, ⟨"StackDepths", "holds", "(II)Z"⟩), ("StackDepths$Graph", 64, ⟨"StackDepths", "holds", "(II)Z"⟩), ("StackDepths$Graph", 89, ⟨"StackDepths", "leastOf", "(I)I"⟩), ("StackDepths$Depths", 44, ⟨"StackDepths", "holds", "(II)Z"⟩), ("StackDepths$Depths", 89, ⟨"StackDepths", "greater", "(II)I"⟩), ("StackDepths$Depths", 92, ⟨"StackDepths", "plus", "(II)I"⟩), ("StackDepths$Interrupts", 29, ⟨"StackDepths", "plus", "(II)I"⟩), ("StackDepths$Interrupts", 33, ⟨"StackDepths", "greater", "(II)I"⟩)]
def pw_N (U : State) : Prop := ∀ q ∈ pw_nest, va_Nw (pw_nw q) U
theorem pw_N.warm {s U : State} (hW : s.WarmedH U.vm) (h : pw_N s) : pw_N U := fun q hq => va_Nw.warmM hW (h q hq)
theorem pw_N.same {u U : State} (e : u.vm = U.vm) (h : pw_N u) : pw_N U := fun q hq => va_Nw.same rfl e (h q hq)
abbrev pw_cl : List vw_C := vwCl
def pw_rm (d : Nat) : Room := { frames := d, cells := 0, slots := 0, locals := 40 * d }
def pw_E (L : pw_Lay) (M : pw_Md) (p : Program) (s : State) (m : MethodId) (args : Array Value) (meth : Method) (c : Code) : Prop :=
  p.tables.exec = Jvm.exec ∧ c.code = M.2.2.1 ∧ meth.sig.returnType = M.2.2.2.2 ∧ c.maxLocals = M.2.2.2.1 ∧ (∀ w ∈ pw_ws, w.before args s = true) ∧ s.vm.findClass M.2.1 = some m.cls ∧ va_K (pw_G L) pw_cl (pw_tys L) s ∧ pw_N s ∧ meth.locks = false
def pw_W (L : pw_Lay) (σ : pw_Mem) (H0 H : Heap) (locs : List Loc) : Prop := va_P (pw_G L) pw_cl (pw_wl L σ) H ∧ va_D (pw_A L) (pw_wl L σ) ∧ va_S (pw_A L) H0 H locs
def pw_Lc (L : pw_Lay) (nL : Nat) (ls : List (Option Value)) (lsM : Array Slot) : Prop := lsM.size = nL ∧ lv_wf lsM ∧ ∀ (i : Nat) (v : Value), ls[i]? = some (some v) → lsM[i]? = some (.val (pw_tr L v))
abbrev pw_K : Type := Option Value → pw_Mem → Prop
def pw_Q (L : pw_Lay) (K : pw_K) : Array Value → State → Outcome → State → Prop := fun _ st oc t => (∃ (r : Option Value) (σ' : pw_Mem), oc = .returned (r.map (pw_tr L)) ∧ K r σ' ∧ va_P (pw_G L) pw_cl (pw_wl L σ') t.heap) ∧ va_F (pw_A L) st t
def pw_P (L : pw_Lay) (as : List Value) (σ : pw_Mem) : Array Value → State → Prop := va_Pc (as.map (pw_tr L)) (fun U => va_P (pw_G L) pw_cl (pw_wl L σ) U.heap ∧ va_K (pw_G L) pw_cl (pw_tys L) U ∧ va_D (pw_A L) (pw_wl L σ) ∧ pw_N U)
def PW (L : pw_Lay) (d : Nat) (M : pw_Md) (K : pw_K) (pc : Nat) (ls : List (Option Value)) (st : List Value) (σ : pw_Mem) : Prop :=
  ∀ (p : Program) (e : Env) (s : State) (m : MethodId) (args : Array Value) (below : List Frame) (meth : Method) (c : Code) (H : Heap) (locs : List Loc) (lsM : Array Slot),
    pw_E L M p s m args meth c → pw_W L σ s.heap H locs → pw_Lc L M.2.2.2.1 ls lsM →
    W p (pw_l L) e (pw_rm d) s m args below meth c H locs 0 0 (MQ below (pw_Q L K) args s 0 0 (pw_A L)) (F0 m pc lsM (st.map (pw_tr L)))
def CT (L : pw_Lay) (d : Nat) (M : pw_Md) (as : List Value) (σ : pw_Mem) (K : pw_K) : Prop :=
  Met (pw_l L) M.1 (.code M.1 M.2.2.1 M.2.2.2.1 M.2.2.2.2 :: pw_ws) (pw_rm d) (pw_P L as σ) (pw_Q L K) 0 0 (pw_A L)
/-! the world's list -/
theorem pw_wl_at {L : pw_Lay} {σ : pw_Mem} {k : Nat} {sh : pw_Sh} (h : pw_shp[k]? = some sh) : (pw_wl L σ)[k]? = some (pw_ad L k, pw_ent L σ k sh) := by
  unfold pw_wl
  rw [List.getElem?_mapIdx, h]
  rfl
theorem pw_wl_len (L : pw_Lay) (σ : pw_Mem) : (pw_wl L σ).length = pw_shp.length := by unfold pw_wl; rw [List.length_mapIdx]
theorem pw_wl_of {L : pw_Lay} {σ : pw_Mem} {k : Nat} {q : Nat × va_E} (h : (pw_wl L σ)[k]? = some q) : ∃ sh, pw_shp[k]? = some sh ∧ q = (pw_ad L k, pw_ent L σ k sh) := by
  unfold pw_wl at h
  rw [List.getElem?_mapIdx] at h
  cases hs : pw_shp[k]? with
  | none => rw [hs] at h; cases h
  | some sh => rw [hs] at h; exact ⟨sh, rfl, (Option.some.inj h).symm⟩
theorem pw_D_any {L : pw_Lay} {σ τ : pw_Mem} (h : va_D (pw_A L) (pw_wl L σ)) : va_D (pw_A L) (pw_wl L τ) := by
  refine ⟨fun i j x y hi hj hxy => ?_, fun k q hq => ?_⟩
  · obtain ⟨si, h1, rfl⟩ := pw_wl_of hi
    obtain ⟨sj, h2, rfl⟩ := pw_wl_of hj
    exact h.1 i j _ _ (pw_wl_at h1) (pw_wl_at h2) hxy
  · obtain ⟨sh, h1, rfl⟩ := pw_wl_of hq
    exact h.2 k (pw_ad L k, pw_ent L σ k sh) (pw_wl_at h1)
theorem pw_ent_ne {L : pw_Lay} {σ : pw_Mem} {k a j : Nat} {v : Int32} {sh : pw_Sh} (h : a ≠ k) : pw_ent L (pw_up σ k j v) a sh = pw_ent L σ a sh := by
  have e : (pw_up σ k j v) a = σ a := by
    funext b
    simp [pw_up, h]
  have e2 : ∀ fs, pw_fld L (pw_up σ k j v) a fs = pw_fld L σ a fs := fun fs => by
    unfold pw_fld
    congr 1
    funext b f
    cases f with
    | none => show Value.int _ = Value.int _; rw [e]
    | some r => rfl
  match sh with
  | .inl (ci, fs) => show Sum.inr (ci, _) = Sum.inr (ci, _); rw [e2]
  | .inr (.inl n) => show Sum.inl (_, n, Sum.inl _) = Sum.inl (_, n, Sum.inl _); rw [e]
  | .inr (.inr (0, rs)) => rfl
  | .inr (.inr (n + 1, rs)) => rfl
theorem pw_set {L : pw_Lay} {σ : pw_Mem} {k j : Nat} {v : Int32} {sh : pw_Sh} (h : pw_shp[k]? = some sh) : (pw_wl L σ).set k (pw_ad L k, pw_ent L (pw_up σ k j v) k sh) = pw_wl L (pw_up σ k j v) := by
  apply List.ext_getElem?
  intro i
  by_cases hi : i = k
  · subst hi
    rw [pw_wl_at h, List.getElem?_set_self]
    exact (List.getElem?_eq_some_iff.mp (pw_wl_at (L := L) (σ := σ) h)).1
  · rw [List.getElem?_set_ne (fun q => hi q.symm)]
    unfold pw_wl
    rw [List.getElem?_mapIdx, List.getElem?_mapIdx]
    cases pw_shp[i]? with
    | none => rfl
    | some sh => show some (pw_ad L i, pw_ent L σ i sh) = some (pw_ad L i, pw_ent L (pw_up σ k j v) i sh); rw [pw_ent_ne hi]
theorem pw_upd (σ : pw_Mem) (k j : Nat) (v : Int32) : upd (σ k) j v = (pw_up σ k j v) k := by
  funext b
  simp [upd, pw_up]
theorem pw_fset {L : pw_Lay} {σ : pw_Mem} {k j : Nat} {v : Int32} {fs : List (Option Nat)} (h : fs[j]? = some none) : (pw_fld L σ k fs).set j (.int v) = pw_fld L (pw_up σ k j v) k fs := by
  apply List.ext_getElem?
  intro i
  unfold pw_fld
  by_cases hi : i = j
  · subst hi
    rw [List.getElem?_set_self (by rw [List.length_mapIdx]; exact (List.getElem?_eq_some_iff.mp h).1), List.getElem?_mapIdx, h]
    show some _ = some (Value.int _)
    simp [pw_up]
  · rw [List.getElem?_set_ne (fun q => hi q.symm), List.getElem?_mapIdx, List.getElem?_mapIdx]
    cases fs[i]? with
    | none => rfl
    | some f =>
      cases f with
      | none => show some (Value.int _) = some (Value.int _); simp [pw_up, hi]
      | some r => rfl
theorem pw_fld_at {L : pw_Lay} {σ : pw_Mem} {k j : Nat} {fs : List (Option Nat)} {f : Option Nat} (h : fs[j]? = some f) : (pw_fld L σ k fs)[j]? = some (pw_fv L σ k j f) := by
  unfold pw_fld
  rw [List.getElem?_mapIdx, h]
  rfl
theorem pw_setO {L : pw_Lay} {σ : pw_Mem} {k j ci : Nat} {v : Int32} {fs : List (Option Nat)} (hs : pw_shp[k]? = some (.inl (ci, fs))) (hf : fs[j]? = some none) : (pw_wl L σ).set k (pw_ad L k, Sum.inr (ci, (pw_fld L σ k fs).set j (.int v))) = pw_wl L (pw_up σ k j v) := by
  have h := pw_set (L := L) (σ := σ) (j := j) (v := v) hs
  have e : pw_ent L (pw_up σ k j v) k (.inl (ci, fs)) = Sum.inr (ci, (pw_fld L σ k fs).set j (.int v)) := by rw [pw_fset hf]; rfl
  rw [e] at h
  exact h
theorem pw_setA {L : pw_Lay} {σ : pw_Mem} {k j n : Nat} {v : Int32} (hs : pw_shp[k]? = some (.inr (.inl n))) : (pw_wl L σ).set k (pw_ad L k, Sum.inl (pw_cI L, n, Sum.inl (upd (σ k) j v))) = pw_wl L (pw_up σ k j v) := by
  have h := pw_set (L := L) (σ := σ) (j := j) (v := v) hs
  have e : pw_ent L (pw_up σ k j v) k (.inr (.inl n)) = Sum.inl (pw_cI L, n, Sum.inl (upd (σ k) j v)) := by rw [pw_upd]; rfl
  rw [e] at h
  exact h
/-- a field's link, read -/
def pw_FL (own : String) (idx ci j : Nat) : Prop := ∃ (C : String) (T : u_T) (N : Nat), pw_cl[ci]? = some (C, T, N) ∧ j < N ∧ Cond.fieldLink own idx (T j).1 (T j).2.1 (T j).2.2.1 ∈ pw_ws ∧ ∀ w ∈ u_ws C T N, w ∈ pw_ws
/-- a field's link, written -/
def pw_FP (own : String) (idx ci j : Nat) (ty : FieldType) : Prop := ∃ (C : String) (T : u_T) (N : Nat) (ty0 : Nat → FieldType), pw_cl[ci]? = some (C, T, N) ∧ j < N ∧ Cond.fieldLink own idx (T j).1 (T j).2.1 (T j).2.2.1 ∈ pw_ws ∧ (∀ w ∈ u_ws C T N, w ∈ pw_ws) ∧ (∀ k, k < N → parseFieldDescriptor (T k).2.2.1 = some (ty0 k)) ∧ (∀ a, a < N → ∀ b, b < N → a ≠ b → (T a).2.1 ≠ (T b).2.1) ∧ (T j).2.2.2 = false ∧ parseFieldDescriptor (T j).2.2.1 = some ty
section PWR
variable {L : pw_Lay} {d : Nat} {M : pw_Md} {K : pw_K} {pc : Nat} {ls : List (Option Value)} {st : List Value} {σ : pw_Mem}
theorem pw_getI {idx ci k j : Nat} {fs : List (Option Nat)} (hd : decode M.2.2.1 pc = .ok (.getfield idx, 3)) (hl : pw_FL M.2.1 idx ci j) (hs : pw_shp[k]? = some (.inl (ci, fs))) (hf : fs[j]? = some none) (kk : PW L d M K (pc + 3) ls (.int (σ k j) :: st) σ) : PW L d M K pc ls (.ref k :: st) σ := by
  intro p e s m args below meth c H locs lsM hE hW hL
  obtain ⟨C, T, N, h1, h2, h3, h4⟩ := hl
  exact va_get (v := .int (σ k j)) hE.1 hE.2.1 hE.2.2.2.2.1 h4 hE.2.2.2.2.2.1 hE.2.2.2.2.2.2.1 hW.1 k (pw_wl_at hs) h1 j h2 (hE.2.2.2.2.1 _ h3) (fun _ h => h) (pw_fld_at hf) hd (kk p e s m args below meth c H locs lsM hE hW hL)
theorem pw_getR {idx ci k j r : Nat} {fs : List (Option Nat)} (hd : decode M.2.2.1 pc = .ok (.getfield idx, 3)) (hl : pw_FL M.2.1 idx ci j) (hs : pw_shp[k]? = some (.inl (ci, fs))) (hf : fs[j]? = some (some r)) (kk : PW L d M K (pc + 3) ls (.ref r :: st) σ) : PW L d M K pc ls (.ref k :: st) σ := by
  intro p e s m args below meth c H locs lsM hE hW hL
  obtain ⟨C, T, N, h1, h2, h3, h4⟩ := hl
  exact va_get (v := .ref (pw_ad L r)) hE.1 hE.2.1 hE.2.2.2.2.1 h4 hE.2.2.2.2.2.1 hE.2.2.2.2.2.2.1 hW.1 k (pw_wl_at hs) h1 j h2 (hE.2.2.2.2.1 _ h3) (fun _ h => h) (pw_fld_at hf) hd (kk p e s m args below meth c H locs lsM hE hW hL)
theorem pw_put {idx ci k j : Nat} {fs : List (Option Nat)} {ty : FieldType} {v : Int32} (hd : decode M.2.2.1 pc = .ok (.putfield idx, 3)) (hl : pw_FP M.2.1 idx ci j ty) (hs : pw_shp[k]? = some (.inl (ci, fs))) (hf : fs[j]? = some none) (hn : narrow ty (.int v) = .int v) (hft : fits ty (.int v) = true) (kk : PW L d M K (pc + 3) ls st (pw_up σ k j v)) : PW L d M K pc ls (.int v :: .ref k :: st) σ := by
  intro p e s m args below meth c H locs lsM hE hW hL
  obtain ⟨C, T, N, ty0, h1, h2, h3, h4, h5, h6, h7, h8⟩ := hl
  refine va_put (v := .int v) (ty := ty) hE.1 hE.2.1 hE.2.2.2.2.1 h4 ty0 h5 h6 hE.2.2.2.2.2.1 hE.2.2.2.2.2.2.1 hW.1 hW.2.1 hW.2.2 k (pw_wl_at hs) h1 j h2 (hE.2.2.2.2.1 _ h3) (fun _ h => h) h7 h8 hn hft (by unfold pw_fld; rw [List.length_mapIdx]; exact (List.getElem?_eq_some_iff.mp hf).1) hd (fun H1 locs1 hP hD hS => ?_)
  have e9 := pw_setO (L := L) (σ := σ) (v := v) hs hf
  rw [e9] at hP hD
  exact kk p e s m args below meth c H1 locs1 lsM hE ⟨hP, hD, hS⟩ hL
theorem pw_iald {k n : Nat} {i : Int32} (hd : decode M.2.2.1 pc = .ok (.iaload, 1)) (hs : pw_shp[k]? = some (.inr (.inl n))) (hi : vp_in i n) (kk : PW L d M K (pc + 1) ls (.int (σ k i.toNatClampNeg) :: st) σ) : PW L d M K pc ls (.int i :: .ref k :: st) σ := by
  intro p e s m args below meth c H locs lsM hE hW hL
  exact va_iald hE.1 hE.2.1 hE.2.2.2.2.2.2.1 hW.1 k 0 (pw_wl_at hs) rfl hi hd (kk p e s m args below meth c H locs lsM hE hW hL)
theorem pw_iast {k n : Nat} {i x : Int32} (hd : decode M.2.2.1 pc = .ok (.iastore, 1)) (hs : pw_shp[k]? = some (.inr (.inl n))) (hi : vp_in i n) (kk : PW L d M K (pc + 1) ls st (pw_up σ k i.toNatClampNeg x)) : PW L d M K pc ls (.int x :: .int i :: .ref k :: st) σ := by
  intro p e s m args below meth c H locs lsM hE hW hL
  refine va_iast hE.1 hE.2.1 hE.2.2.2.2.2.2.1 hW.1 hW.2.1 hW.2.2 k 0 (pw_wl_at hs) rfl hi hd (fun H1 locs1 hP hD hS => ?_)
  have e9 := pw_setA (L := L) (σ := σ) (j := i.toNatClampNeg) (v := x) hs
  rw [e9] at hP hD
  exact kk p e s m args below meth c H1 locs1 lsM hE ⟨hP, hD, hS⟩ hL
theorem pw_aaldS {k r : Nat} {i : Int32} {rs : List Nat} (hd : decode M.2.2.1 pc = .ok (.aaload, 1)) (hs : pw_shp[k]? = some (.inr (.inr (1, rs)))) (hi : vp_in i rs.length) (hr : rs[i.toNatClampNeg]? = some r) (kk : PW L d M K (pc + 1) ls (.ref r :: st) σ) : PW L d M K pc ls (.int i :: .ref k :: st) σ := by
  intro p e s m args below meth c H locs lsM hE hW hL
  refine va_aldq hE.1 hE.2.1 hE.2.2.2.2.2.2.1 hW.1 k 2 (pw_wl_at hs) rfl hi hd ?_
  show W p (pw_l L) e (pw_rm d) s m args below meth c H locs 0 0 _ (F0 m (pc + 1) lsM (va_rf (rs[i.toNatClampNeg]?.map (pw_ad L)) :: st.map (pw_tr L)))
  rw [hr]
  exact kk p e s m args below meth c H locs lsM hE hW hL
theorem pw_aaldB {k r : Nat} {i : Int32} {rs : List Nat} (hd : decode M.2.2.1 pc = .ok (.aaload, 1)) (hs : pw_shp[k]? = some (.inr (.inr (0, rs)))) (hi : vp_in i rs.length) (hr : rs[i.toNatClampNeg]? = some r) (kk : PW L d M K (pc + 1) ls (.ref r :: st) σ) : PW L d M K pc ls (.int i :: .ref k :: st) σ := by
  intro p e s m args below meth c H locs lsM hE hW hL
  have hK := hE.2.2.2.2.2.2.1
  have ha : (pw_wl L σ)[k]? = some (pw_ad L k, Sum.inl (pw_cB L, rs.length, .inr (.inr (.inr (.inr (fun i => rs[i]?.map (pw_ad L))))))) := pw_wl_at hs
  have hlt : i.toNatClampNeg < rs.length := Nat.not_le.mp fun q => hi (Or.inr q)
  refine W.aald (v := va_rf (rs[i.toNatClampNeg]?.map (pw_ad L))) (ty := .array .int) hE.1 hE.2.1 (hW.1 k _ ha) ((hK.2 1 _ rfl).1 rs.length (fun j => va_rf (rs[j]?.map (pw_ad L)))) rfl (fun q => by cases q) (by show ¬ (i < 0 ∨ (arrV _ _ _).slots.size ≤ _); rw [arrV_size]; exact hi) (by show (arrV _ _ _).slots[_]? = _; rw [arrV_read _ _ hlt]) rfl rfl hd ?_
  rw [hr]
  exact kk p e s m args below meth c H locs lsM hE hW hL
end PWR
end
