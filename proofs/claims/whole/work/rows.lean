section
-- ===== PART A: goes FIRST, ahead of the names: the tables' words, and 'selects' of the private methods out of them =====
/-- a private method of a class that the tables say can be made, by its rows of tables_1 -/
def lw_okq (q : MethodName × Nat) : Prop := (q.1.cls ≠ "java/lang/invoke/MethodHandle" ∧ q.1.cls ≠ "java/lang/invoke/VarHandle") ∧ Cond.instantiable q.1.cls q.2 ∈ tables_1 ∧ Cond.privateMethod q.1 ∈ tables_1 ∧ Cond.instanceMethod q.1 ∈ tables_1
theorem lw_p0 : lw_okq (⟨"StackDepths", "isRoutine", "(I)Z"⟩, 10) := ⟨⟨by decide +kernel, by decide +kernel⟩, List.mem_of_getElem? (i := 16) (by decide +kernel), List.mem_of_getElem? (i := 339) (by decide +kernel), List.mem_of_getElem? (i := 340) (by decide +kernel)⟩
theorem lw_p1 : lw_okq (⟨"StackDepths", "refusalOfCall", "(III)I"⟩, 10) := ⟨⟨by decide +kernel, by decide +kernel⟩, List.mem_of_getElem? (i := 16) (by decide +kernel), List.mem_of_getElem? (i := 354) (by decide +kernel), List.mem_of_getElem? (i := 355) (by decide +kernel)⟩
theorem lw_p2 : lw_okq (⟨"StackDepths", "canBeCall", "(III)Z"⟩, 10) := ⟨⟨by decide +kernel, by decide +kernel⟩, List.mem_of_getElem? (i := 16) (by decide +kernel), List.mem_of_getElem? (i := 358) (by decide +kernel), List.mem_of_getElem? (i := 359) (by decide +kernel)⟩
theorem lw_p3 : lw_okq (⟨"StackDepths$Pointers", "spreadGoals", "()V"⟩, 3) := ⟨⟨by decide +kernel, by decide +kernel⟩, List.mem_of_getElem? (i := 48) (by decide +kernel), List.mem_of_getElem? (i := 393) (by decide +kernel), List.mem_of_getElem? (i := 394) (by decide +kernel)⟩
theorem lw_p4 : lw_okq (⟨"StackDepths$Graph", "drawCalls", "()V"⟩, 11) := ⟨⟨by decide +kernel, by decide +kernel⟩, List.mem_of_getElem? (i := 85) (by decide +kernel), List.mem_of_getElem? (i := 421) (by decide +kernel), List.mem_of_getElem? (i := 422) (by decide +kernel)⟩
theorem lw_p5 : lw_okq (⟨"StackDepths$Graph", "closeReach", "()V"⟩, 11) := ⟨⟨by decide +kernel, by decide +kernel⟩, List.mem_of_getElem? (i := 85) (by decide +kernel), List.mem_of_getElem? (i := 426) (by decide +kernel), List.mem_of_getElem? (i := 427) (by decide +kernel)⟩
theorem lw_p6 : lw_okq (⟨"StackDepths$Graph", "gatherTogether", "()V"⟩, 11) := ⟨⟨by decide +kernel, by decide +kernel⟩, List.mem_of_getElem? (i := 85) (by decide +kernel), List.mem_of_getElem? (i := 431) (by decide +kernel), List.mem_of_getElem? (i := 432) (by decide +kernel)⟩
theorem lw_p7 : lw_okq (⟨"StackDepths$Graph", "markRings", "()V"⟩, 11) := ⟨⟨by decide +kernel, by decide +kernel⟩, List.mem_of_getElem? (i := 85) (by decide +kernel), List.mem_of_getElem? (i := 435) (by decide +kernel), List.mem_of_getElem? (i := 436) (by decide +kernel)⟩
theorem lw_p8 : lw_okq (⟨"StackDepths$Graph", "orderLeaders", "()V"⟩, 11) := ⟨⟨by decide +kernel, by decide +kernel⟩, List.mem_of_getElem? (i := 85) (by decide +kernel), List.mem_of_getElem? (i := 439) (by decide +kernel), List.mem_of_getElem? (i := 440) (by decide +kernel)⟩
theorem lw_p9 : lw_okq (⟨"StackDepths$Depths", "depthOfRing", "(I)I"⟩, 4) := ⟨⟨by decide +kernel, by decide +kernel⟩, List.mem_of_getElem? (i := 136) (by decide +kernel), List.mem_of_getElem? (i := 472) (by decide +kernel), List.mem_of_getElem? (i := 473) (by decide +kernel)⟩
theorem lw_p10 : lw_okq (⟨"StackDepths$Depths", "frameOf", "(I)I"⟩, 4) := ⟨⟨by decide +kernel, by decide +kernel⟩, List.mem_of_getElem? (i := 136) (by decide +kernel), List.mem_of_getElem? (i := 476) (by decide +kernel), List.mem_of_getElem? (i := 477) (by decide +kernel)⟩
theorem lw_p11 : lw_okq (⟨"StackDepths$Depths", "greatestOf", "(I)I"⟩, 4) := ⟨⟨by decide +kernel, by decide +kernel⟩, List.mem_of_getElem? (i := 136) (by decide +kernel), List.mem_of_getElem? (i := 480) (by decide +kernel), List.mem_of_getElem? (i := 481) (by decide +kernel)⟩
theorem lw_p12 : lw_okq (⟨"StackDepths$Depths", "depthOfTails", "(I)I"⟩, 4) := ⟨⟨by decide +kernel, by decide +kernel⟩, List.mem_of_getElem? (i := 136) (by decide +kernel), List.mem_of_getElem? (i := 490) (by decide +kernel), List.mem_of_getElem? (i := 491) (by decide +kernel)⟩
theorem lw_p13 : lw_okq (⟨"StackDepths$Depths", "depthOfItself", "(I)I"⟩, 4) := ⟨⟨by decide +kernel, by decide +kernel⟩, List.mem_of_getElem? (i := 136) (by decide +kernel), List.mem_of_getElem? (i := 494) (by decide +kernel), List.mem_of_getElem? (i := 495) (by decide +kernel)⟩
theorem lw_p14 : lw_okq (⟨"StackDepths$Depths", "spread", "(II)V"⟩, 4) := ⟨⟨by decide +kernel, by decide +kernel⟩, List.mem_of_getElem? (i := 136) (by decide +kernel), List.mem_of_getElem? (i := 498) (by decide +kernel), List.mem_of_getElem? (i := 499) (by decide +kernel)⟩
theorem lw_p15 : lw_okq (⟨"StackDepths$Depths", "leastThatTells", "(II)I"⟩, 4) := ⟨⟨by decide +kernel, by decide +kernel⟩, List.mem_of_getElem? (i := 136) (by decide +kernel), List.mem_of_getElem? (i := 514) (by decide +kernel), List.mem_of_getElem? (i := 515) (by decide +kernel)⟩
def lw_privs_1 : List (MethodName × Nat) := [(⟨"StackDepths", "isRoutine", "(I)Z"⟩, 10), (⟨"StackDepths", "refusalOfCall", "(III)I"⟩, 10), (⟨"StackDepths", "canBeCall", "(III)Z"⟩, 10), (⟨"StackDepths$Pointers", "spreadGoals", "()V"⟩, 3), (⟨"StackDepths$Graph", "drawCalls", "()V"⟩, 11), (⟨"StackDepths$Graph", "closeReach", "()V"⟩, 11), (⟨"StackDepths$Graph", "gatherTogether", "()V"⟩, 11), (⟨"StackDepths$Graph", "markRings", "()V"⟩, 11), (⟨"StackDepths$Graph", "orderLeaders", "()V"⟩, 11), (⟨"StackDepths$Depths", "depthOfRing", "(I)I"⟩, 4), (⟨"StackDepths$Depths", "frameOf", "(I)I"⟩, 4), (⟨"StackDepths$Depths", "greatestOf", "(I)I"⟩, 4), (⟨"StackDepths$Depths", "depthOfTails", "(I)I"⟩, 4), (⟨"StackDepths$Depths", "depthOfItself", "(I)I"⟩, 4), (⟨"StackDepths$Depths", "spread", "(II)V"⟩, 4), (⟨"StackDepths$Depths", "leastThatTells", "(II)I"⟩, 4)]
theorem lw_r1 : ∀ q ∈ lw_privs_1, lw_okq q := List.forall_mem_cons.mpr ⟨lw_p0, List.forall_mem_cons.mpr ⟨lw_p1, List.forall_mem_cons.mpr ⟨lw_p2, List.forall_mem_cons.mpr ⟨lw_p3, List.forall_mem_cons.mpr ⟨lw_p4, List.forall_mem_cons.mpr ⟨lw_p5, List.forall_mem_cons.mpr ⟨lw_p6, List.forall_mem_cons.mpr ⟨lw_p7, List.forall_mem_cons.mpr ⟨lw_p8, List.forall_mem_cons.mpr ⟨lw_p9, List.forall_mem_cons.mpr ⟨lw_p10, List.forall_mem_cons.mpr ⟨lw_p11, List.forall_mem_cons.mpr ⟨lw_p12, List.forall_mem_cons.mpr ⟨lw_p13, List.forall_mem_cons.mpr ⟨lw_p14, List.forall_mem_cons.mpr ⟨lw_p15, fun _ h => absurd h List.not_mem_nil⟩⟩⟩⟩⟩⟩⟩⟩⟩⟩⟩⟩⟩⟩⟩⟩
theorem lw_p16 : lw_okq (⟨"StackDepths$Depths", "leastThatHas", "(II)I"⟩, 4) := ⟨⟨by decide +kernel, by decide +kernel⟩, List.mem_of_getElem? (i := 136) (by decide +kernel), List.mem_of_getElem? (i := 518) (by decide +kernel), List.mem_of_getElem? (i := 519) (by decide +kernel)⟩
theorem lw_p17 : lw_okq (⟨"StackDepths", "isTask", "(I)Z"⟩, 10) := ⟨⟨by decide +kernel, by decide +kernel⟩, List.mem_of_getElem? (i := 16) (by decide +kernel), List.mem_of_getElem? (i := 550) (by decide +kernel), List.mem_of_getElem? (i := 551) (by decide +kernel)⟩
theorem lw_p18 : lw_okq (⟨"StackDepths$Interrupts", "greatestAt", "(I[I)I"⟩, 4) := ⟨⟨by decide +kernel, by decide +kernel⟩, List.mem_of_getElem? (i := 156) (by decide +kernel), List.mem_of_getElem? (i := 558) (by decide +kernel), List.mem_of_getElem? (i := 559) (by decide +kernel)⟩
theorem lw_p19 : lw_okq (⟨"StackDepths", "totalAsMeasured", "(I)I"⟩, 10) := ⟨⟨by decide +kernel, by decide +kernel⟩, List.mem_of_getElem? (i := 16) (by decide +kernel), List.mem_of_getElem? (i := 564) (by decide +kernel), List.mem_of_getElem? (i := 565) (by decide +kernel)⟩
theorem lw_p20 : lw_okq (⟨"StackDepths", "roomAsMeasured", "(I)I"⟩, 10) := ⟨⟨by decide +kernel, by decide +kernel⟩, List.mem_of_getElem? (i := 16) (by decide +kernel), List.mem_of_getElem? (i := 569) (by decide +kernel), List.mem_of_getElem? (i := 570) (by decide +kernel)⟩
theorem lw_p21 : lw_okq (⟨"StackDepths", "shareRooms", "()I"⟩, 10) := ⟨⟨by decide +kernel, by decide +kernel⟩, List.mem_of_getElem? (i := 16) (by decide +kernel), List.mem_of_getElem? (i := 585) (by decide +kernel), List.mem_of_getElem? (i := 586) (by decide +kernel)⟩
theorem lw_p22 : lw_okq (⟨"StackDepths$Sharing", "place", "(LStackDepths$Tasks;III)V"⟩, 6) := ⟨⟨by decide +kernel, by decide +kernel⟩, List.mem_of_getElem? (i := 205) (by decide +kernel), List.mem_of_getElem? (i := 594) (by decide +kernel), List.mem_of_getElem? (i := 595) (by decide +kernel)⟩
theorem lw_p23 : lw_okq (⟨"StackDepths$Sharing", "keep", "(I)V"⟩, 6) := ⟨⟨by decide +kernel, by decide +kernel⟩, List.mem_of_getElem? (i := 205) (by decide +kernel), List.mem_of_getElem? (i := 598) (by decide +kernel), List.mem_of_getElem? (i := 599) (by decide +kernel)⟩
theorem lw_p24 : lw_okq (⟨"StackDepths", "totalWithout", "(II)I"⟩, 10) := ⟨⟨by decide +kernel, by decide +kernel⟩, List.mem_of_getElem? (i := 16) (by decide +kernel), List.mem_of_getElem? (i := 613) (by decide +kernel), List.mem_of_getElem? (i := 614) (by decide +kernel)⟩
theorem lw_p25 : lw_okq (⟨"StackDepths", "pushMarked", "(I)I"⟩, 10) := ⟨⟨by decide +kernel, by decide +kernel⟩, List.mem_of_getElem? (i := 16) (by decide +kernel), List.mem_of_getElem? (i := 646) (by decide +kernel), List.mem_of_getElem? (i := 647) (by decide +kernel)⟩
theorem lw_p26 : lw_okq (⟨"StackDepths", "stayedWithinDepth", "()Z"⟩, 10) := ⟨⟨by decide +kernel, by decide +kernel⟩, List.mem_of_getElem? (i := 16) (by decide +kernel), List.mem_of_getElem? (i := 670) (by decide +kernel), List.mem_of_getElem? (i := 671) (by decide +kernel)⟩
theorem lw_p27 : lw_okq (⟨"StackDepths", "addFromSheet", "(LStackDepths$Sheet;II)I"⟩, 10) := ⟨⟨by decide +kernel, by decide +kernel⟩, List.mem_of_getElem? (i := 16) (by decide +kernel), List.mem_of_getElem? (i := 704) (by decide +kernel), List.mem_of_getElem? (i := 705) (by decide +kernel)⟩
theorem lw_p28 : lw_okq (⟨"StackDepths", "removeFromSheet", "(LStackDepths$Sheet;II)V"⟩, 10) := ⟨⟨by decide +kernel, by decide +kernel⟩, List.mem_of_getElem? (i := 16) (by decide +kernel), List.mem_of_getElem? (i := 712) (by decide +kernel), List.mem_of_getElem? (i := 713) (by decide +kernel)⟩
theorem lw_p29 : lw_okq (⟨"StackDepthsModel", "is", "(I)Z"⟩, 39) := ⟨⟨by decide +kernel, by decide +kernel⟩, List.mem_of_getElem? (i := 724) (by decide +kernel), List.mem_of_getElem? (i := 860) (by decide +kernel), List.mem_of_getElem? (i := 861) (by decide +kernel)⟩
theorem lw_p30 : lw_okq (⟨"StackDepthsModel", "called", "(III)I"⟩, 39) := ⟨⟨by decide +kernel, by decide +kernel⟩, List.mem_of_getElem? (i := 724) (by decide +kernel), List.mem_of_getElem? (i := 876) (by decide +kernel), List.mem_of_getElem? (i := 877) (by decide +kernel)⟩
theorem lw_p31 : lw_okq (⟨"StackDepthsModel", "find", "(III)I"⟩, 39) := ⟨⟨by decide +kernel, by decide +kernel⟩, List.mem_of_getElem? (i := 724) (by decide +kernel), List.mem_of_getElem? (i := 885) (by decide +kernel), List.mem_of_getElem? (i := 886) (by decide +kernel)⟩
def lw_privs_2 : List (MethodName × Nat) := [(⟨"StackDepths$Depths", "leastThatHas", "(II)I"⟩, 4), (⟨"StackDepths", "isTask", "(I)Z"⟩, 10), (⟨"StackDepths$Interrupts", "greatestAt", "(I[I)I"⟩, 4), (⟨"StackDepths", "totalAsMeasured", "(I)I"⟩, 10), (⟨"StackDepths", "roomAsMeasured", "(I)I"⟩, 10), (⟨"StackDepths", "shareRooms", "()I"⟩, 10), (⟨"StackDepths$Sharing", "place", "(LStackDepths$Tasks;III)V"⟩, 6), (⟨"StackDepths$Sharing", "keep", "(I)V"⟩, 6), (⟨"StackDepths", "totalWithout", "(II)I"⟩, 10), (⟨"StackDepths", "pushMarked", "(I)I"⟩, 10), (⟨"StackDepths", "stayedWithinDepth", "()Z"⟩, 10), (⟨"StackDepths", "addFromSheet", "(LStackDepths$Sheet;II)I"⟩, 10), (⟨"StackDepths", "removeFromSheet", "(LStackDepths$Sheet;II)V"⟩, 10), (⟨"StackDepthsModel", "is", "(I)Z"⟩, 39), (⟨"StackDepthsModel", "called", "(III)I"⟩, 39), (⟨"StackDepthsModel", "find", "(III)I"⟩, 39)]
theorem lw_r2 : ∀ q ∈ lw_privs_2, lw_okq q := List.forall_mem_cons.mpr ⟨lw_p16, List.forall_mem_cons.mpr ⟨lw_p17, List.forall_mem_cons.mpr ⟨lw_p18, List.forall_mem_cons.mpr ⟨lw_p19, List.forall_mem_cons.mpr ⟨lw_p20, List.forall_mem_cons.mpr ⟨lw_p21, List.forall_mem_cons.mpr ⟨lw_p22, List.forall_mem_cons.mpr ⟨lw_p23, List.forall_mem_cons.mpr ⟨lw_p24, List.forall_mem_cons.mpr ⟨lw_p25, List.forall_mem_cons.mpr ⟨lw_p26, List.forall_mem_cons.mpr ⟨lw_p27, List.forall_mem_cons.mpr ⟨lw_p28, List.forall_mem_cons.mpr ⟨lw_p29, List.forall_mem_cons.mpr ⟨lw_p30, List.forall_mem_cons.mpr ⟨lw_p31, fun _ h => absurd h List.not_mem_nil⟩⟩⟩⟩⟩⟩⟩⟩⟩⟩⟩⟩⟩⟩⟩⟩
theorem lw_p32 : lw_okq (⟨"StackDepthsModel", "layGoals", "()V"⟩, 39) := ⟨⟨by decide +kernel, by decide +kernel⟩, List.mem_of_getElem? (i := 724) (by decide +kernel), List.mem_of_getElem? (i := 905) (by decide +kernel), List.mem_of_getElem? (i := 906) (by decide +kernel)⟩
theorem lw_p33 : lw_okq (⟨"StackDepthsModel", "layNet", "()V"⟩, 39) := ⟨⟨by decide +kernel, by decide +kernel⟩, List.mem_of_getElem? (i := 724) (by decide +kernel), List.mem_of_getElem? (i := 914) (by decide +kernel), List.mem_of_getElem? (i := 915) (by decide +kernel)⟩
theorem lw_p34 : lw_okq (⟨"StackDepthsModel", "isRing", "(I)Z"⟩, 39) := ⟨⟨by decide +kernel, by decide +kernel⟩, List.mem_of_getElem? (i := 724) (by decide +kernel), List.mem_of_getElem? (i := 918) (by decide +kernel), List.mem_of_getElem? (i := 919) (by decide +kernel)⟩
theorem lw_p35 : lw_okq (⟨"StackDepthsModel", "layDepths", "()V"⟩, 39) := ⟨⟨by decide +kernel, by decide +kernel⟩, List.mem_of_getElem? (i := 724) (by decide +kernel), List.mem_of_getElem? (i := 932) (by decide +kernel), List.mem_of_getElem? (i := 933) (by decide +kernel)⟩
theorem lw_p36 : lw_okq (⟨"StackDepthsModel", "reckoned", "(I)I"⟩, 39) := ⟨⟨by decide +kernel, by decide +kernel⟩, List.mem_of_getElem? (i := 724) (by decide +kernel), List.mem_of_getElem? (i := 936) (by decide +kernel), List.mem_of_getElem? (i := 937) (by decide +kernel)⟩
theorem lw_p37 : lw_okq (⟨"StackDepthsModel", "greatest", "(I)I"⟩, 39) := ⟨⟨by decide +kernel, by decide +kernel⟩, List.mem_of_getElem? (i := 724) (by decide +kernel), List.mem_of_getElem? (i := 940) (by decide +kernel), List.mem_of_getElem? (i := 941) (by decide +kernel)⟩
theorem lw_p38 : lw_okq (⟨"StackDepthsModel", "own", "(I)I"⟩, 39) := ⟨⟨by decide +kernel, by decide +kernel⟩, List.mem_of_getElem? (i := 724) (by decide +kernel), List.mem_of_getElem? (i := 944) (by decide +kernel), List.mem_of_getElem? (i := 945) (by decide +kernel)⟩
theorem lw_p39 : lw_okq (⟨"StackDepthsModel", "reachesRing", "(I)Z"⟩, 39) := ⟨⟨by decide +kernel, by decide +kernel⟩, List.mem_of_getElem? (i := 724) (by decide +kernel), List.mem_of_getElem? (i := 952) (by decide +kernel), List.mem_of_getElem? (i := 953) (by decide +kernel)⟩
theorem lw_p40 : lw_okq (⟨"StackDepthsModel", "nextOf", "(I)I"⟩, 39) := ⟨⟨by decide +kernel, by decide +kernel⟩, List.mem_of_getElem? (i := 724) (by decide +kernel), List.mem_of_getElem? (i := 956) (by decide +kernel), List.mem_of_getElem? (i := 957) (by decide +kernel)⟩
theorem lw_p41 : lw_okq (⟨"StackDepthsModel", "isTask", "(I)Z"⟩, 39) := ⟨⟨by decide +kernel, by decide +kernel⟩, List.mem_of_getElem? (i := 724) (by decide +kernel), List.mem_of_getElem? (i := 977) (by decide +kernel), List.mem_of_getElem? (i := 978) (by decide +kernel)⟩
theorem lw_p42 : lw_okq (⟨"StackDepthsModel", "totalOf", "(I)I"⟩, 39) := ⟨⟨by decide +kernel, by decide +kernel⟩, List.mem_of_getElem? (i := 724) (by decide +kernel), List.mem_of_getElem? (i := 981) (by decide +kernel), List.mem_of_getElem? (i := 982) (by decide +kernel)⟩
theorem lw_p43 : lw_okq (⟨"StackDepthsModel", "top", "(I)I"⟩, 39) := ⟨⟨by decide +kernel, by decide +kernel⟩, List.mem_of_getElem? (i := 724) (by decide +kernel), List.mem_of_getElem? (i := 985) (by decide +kernel), List.mem_of_getElem? (i := 986) (by decide +kernel)⟩
theorem lw_p44 : lw_okq (⟨"StackDepthsModel", "share", "()Z"⟩, 39) := ⟨⟨by decide +kernel, by decide +kernel⟩, List.mem_of_getElem? (i := 724) (by decide +kernel), List.mem_of_getElem? (i := 997) (by decide +kernel), List.mem_of_getElem? (i := 998) (by decide +kernel)⟩
theorem lw_p45 : lw_okq (⟨"StackDepthsModel", "sumOf", "()I"⟩, 39) := ⟨⟨by decide +kernel, by decide +kernel⟩, List.mem_of_getElem? (i := 724) (by decide +kernel), List.mem_of_getElem? (i := 1001) (by decide +kernel), List.mem_of_getElem? (i := 1002) (by decide +kernel)⟩
theorem lw_p46 : lw_okq (⟨"StackDepthsModel", "nextWay", "()Z"⟩, 39) := ⟨⟨by decide +kernel, by decide +kernel⟩, List.mem_of_getElem? (i := 724) (by decide +kernel), List.mem_of_getElem? (i := 1005) (by decide +kernel), List.mem_of_getElem? (i := 1006) (by decide +kernel)⟩
theorem lw_p47 : lw_okq (⟨"StackDepthsModel", "highest", "(I)I"⟩, 39) := ⟨⟨by decide +kernel, by decide +kernel⟩, List.mem_of_getElem? (i := 724) (by decide +kernel), List.mem_of_getElem? (i := 1009) (by decide +kernel), List.mem_of_getElem? (i := 1010) (by decide +kernel)⟩
def lw_privs_3 : List (MethodName × Nat) := [(⟨"StackDepthsModel", "layGoals", "()V"⟩, 39), (⟨"StackDepthsModel", "layNet", "()V"⟩, 39), (⟨"StackDepthsModel", "isRing", "(I)Z"⟩, 39), (⟨"StackDepthsModel", "layDepths", "()V"⟩, 39), (⟨"StackDepthsModel", "reckoned", "(I)I"⟩, 39), (⟨"StackDepthsModel", "greatest", "(I)I"⟩, 39), (⟨"StackDepthsModel", "own", "(I)I"⟩, 39), (⟨"StackDepthsModel", "reachesRing", "(I)Z"⟩, 39), (⟨"StackDepthsModel", "nextOf", "(I)I"⟩, 39), (⟨"StackDepthsModel", "isTask", "(I)Z"⟩, 39), (⟨"StackDepthsModel", "totalOf", "(I)I"⟩, 39), (⟨"StackDepthsModel", "top", "(I)I"⟩, 39), (⟨"StackDepthsModel", "share", "()Z"⟩, 39), (⟨"StackDepthsModel", "sumOf", "()I"⟩, 39), (⟨"StackDepthsModel", "nextWay", "()Z"⟩, 39), (⟨"StackDepthsModel", "highest", "(I)I"⟩, 39)]
theorem lw_r3 : ∀ q ∈ lw_privs_3, lw_okq q := List.forall_mem_cons.mpr ⟨lw_p32, List.forall_mem_cons.mpr ⟨lw_p33, List.forall_mem_cons.mpr ⟨lw_p34, List.forall_mem_cons.mpr ⟨lw_p35, List.forall_mem_cons.mpr ⟨lw_p36, List.forall_mem_cons.mpr ⟨lw_p37, List.forall_mem_cons.mpr ⟨lw_p38, List.forall_mem_cons.mpr ⟨lw_p39, List.forall_mem_cons.mpr ⟨lw_p40, List.forall_mem_cons.mpr ⟨lw_p41, List.forall_mem_cons.mpr ⟨lw_p42, List.forall_mem_cons.mpr ⟨lw_p43, List.forall_mem_cons.mpr ⟨lw_p44, List.forall_mem_cons.mpr ⟨lw_p45, List.forall_mem_cons.mpr ⟨lw_p46, List.forall_mem_cons.mpr ⟨lw_p47, fun _ h => absurd h List.not_mem_nil⟩⟩⟩⟩⟩⟩⟩⟩⟩⟩⟩⟩⟩⟩⟩⟩
theorem lw_p48 : lw_okq (⟨"StackDepthsModel", "savesOf", "(II)I"⟩, 39) := ⟨⟨by decide +kernel, by decide +kernel⟩, List.mem_of_getElem? (i := 724) (by decide +kernel), List.mem_of_getElem? (i := 1021) (by decide +kernel), List.mem_of_getElem? (i := 1022) (by decide +kernel)⟩
theorem lw_p49 : lw_okq (⟨"StackDepthsModel", "put", "(I)V"⟩, 39) := ⟨⟨by decide +kernel, by decide +kernel⟩, List.mem_of_getElem? (i := 724) (by decide +kernel), List.mem_of_getElem? (i := 1033) (by decide +kernel), List.mem_of_getElem? (i := 1034) (by decide +kernel)⟩
theorem lw_p50 : lw_okq (⟨"StackDepthsModel", "pull", "()V"⟩, 39) := ⟨⟨by decide +kernel, by decide +kernel⟩, List.mem_of_getElem? (i := 724) (by decide +kernel), List.mem_of_getElem? (i := 1045) (by decide +kernel), List.mem_of_getElem? (i := 1046) (by decide +kernel)⟩
def lw_privs_4 : List (MethodName × Nat) := [(⟨"StackDepthsModel", "savesOf", "(II)I"⟩, 39), (⟨"StackDepthsModel", "put", "(I)V"⟩, 39), (⟨"StackDepthsModel", "pull", "()V"⟩, 39)]
theorem lw_r4 : ∀ q ∈ lw_privs_4, lw_okq q := List.forall_mem_cons.mpr ⟨lw_p48, List.forall_mem_cons.mpr ⟨lw_p49, List.forall_mem_cons.mpr ⟨lw_p50, fun _ h => absurd h List.not_mem_nil⟩⟩⟩
def lw_privs : List (MethodName × Nat) := lw_privs_1 ++ (lw_privs_2 ++ (lw_privs_3 ++ (lw_privs_4)))
def lw_tbl : List Cond := k2_sels lw_privs ++ tables_1
theorem lw_privs_ok : ∀ q ∈ lw_privs, lw_okq q := by
  show ∀ q ∈ lw_privs_1 ++ (lw_privs_2 ++ (lw_privs_3 ++ (lw_privs_4))), lw_okq q
  exact List.forall_mem_append.mpr ⟨lw_r1, List.forall_mem_append.mpr ⟨lw_r2, List.forall_mem_append.mpr ⟨lw_r3, lw_r4⟩⟩⟩
end
section
/-! ===== BEGIN words of one list among another's, by their places ===== -/
theorem goodIn_r {big : List Cond} (ws : List Cond) (ps : List Nat) (hp : ws = ps.filterMap (fun i => big[i]?)) (h : ws.all goodWord = true) : GoodIn big ws := by
  intro w hw
  have h1 := List.all_eq_true.mp h w hw
  rw [hp] at hw
  obtain ⟨i, -, hi⟩ := List.mem_filterMap.mp hw
  have hm : w ∈ big := by first | exact List.mem_of_getElem? hi | exact List.getElem?_mem hi
  exact ⟨hm, good_of_word h1⟩
theorem goodIn_app {big a b : List Cond} (ha : GoodIn big a) (hb : GoodIn big b) : GoodIn big (a ++ b) := fun w h => (List.mem_append.mp h).elim (ha w) (hb w)
theorem goodIn_ca {big a b : List Cond} {c : Cond} (ha : GoodIn big (c :: a)) (hb : GoodIn big b) : GoodIn big (c :: (a ++ b)) := fun w h => (List.mem_cons.mp h).elim (fun e => ha w (List.mem_cons.mpr (Or.inl e))) (fun h => (List.mem_append.mp h).elim (fun h => ha w (List.mem_cons.mpr (Or.inr h))) (hb w))
theorem goodIn_sub {big ws : List Cond} (hm : ∀ w ∈ ws, w ∈ big) (h : ws.all goodWord = true) : GoodIn big ws := fun w hw => ⟨hm w hw, good_of_word (List.all_eq_true.mp h w hw)⟩

def RX0 : String := "StackDepths$Calls"
def TX0 : u_T := fun k => match k with
  | 0 => ("StackDepths$Calls", "called", "[[I", true)
  | _ => ("StackDepths$Calls", "size", "I", false)
def tyX0 : Nat → FieldType := fun k => match k with
  | 0 => .array (.array .int)
  | _ => .int
theorem nmX0 : ∀ a, a < 2 → ∀ b, b < 2 → a ≠ b → (TX0 a).2.1 ≠ (TX0 b).2.1 := by decide +kernel
theorem tyX0_ok : ∀ k, k < 2 → parseFieldDescriptor (TX0 k).2.2.1 = some (tyX0 k) := by decide +kernel
abbrev cX0_init : ByteArray := prog_2_method_1_code
def yX0_init : MethodName := ⟨RX0, "<init>", "()V"⟩
abbrev cX0_has : ByteArray := prog_2_method_2_code
def yX0_has : MethodName := ⟨RX0, "has", "(III)Z"⟩
abbrev cX0_add : ByteArray := prog_2_method_3_code
def yX0_add : MethodName := ⟨RX0, "add", "(III)V"⟩
abbrev cX0_remove : ByteArray := prog_2_method_4_code
def yX0_remove : MethodName := ⟨RX0, "remove", "(III)V"⟩
def RX1 : String := "StackDepths$Depths"
def TX1 : u_T := fun k => match k with
  | 0 => ("StackDepths$Depths", "routines", "LStackDepths$Routines;", true)
  | 1 => ("StackDepths$Depths", "graph", "LStackDepths$Graph;", true)
  | 2 => ("StackDepths$Depths", "unframed", "I", false)
  | _ => ("StackDepths$Depths", "found", "[I", true)
def tyX1 : Nat → FieldType := fun k => match k with
  | 0 => .object "StackDepths$Routines"
  | 1 => .object "StackDepths$Graph"
  | 2 => .int
  | _ => .array .int
theorem nmX1 : ∀ a, a < 4 → ∀ b, b < 4 → a ≠ b → (TX1 a).2.1 ≠ (TX1 b).2.1 := by decide +kernel
theorem tyX1_ok : ∀ k, k < 4 → parseFieldDescriptor (TX1 k).2.2.1 = some (tyX1 k) := by decide +kernel
abbrev cX1_init : ByteArray := prog_3_method_1_code
def yX1_init : MethodName := ⟨RX1, "<init>", "(LStackDepths$Routines;LStackDepths$Graph;)V"⟩
abbrev cX1_measure : ByteArray := prog_3_method_2_code
def yX1_measure : MethodName := ⟨RX1, "measure", "(I)V"⟩
abbrev cX1_nextOnWay : ByteArray := prog_3_method_3_code
def yX1_nextOnWay : MethodName := ⟨RX1, "nextOnWay", "(I)I"⟩
abbrev cX1_spread : ByteArray := prog_3_method_4_code
def yX1_spread : MethodName := ⟨RX1, "spread", "(II)V"⟩
abbrev cX1_depthOfRing : ByteArray := prog_3_method_5_code
def yX1_depthOfRing : MethodName := ⟨RX1, "depthOfRing", "(I)I"⟩
abbrev cX1_depthOfTails : ByteArray := prog_3_method_6_code
def yX1_depthOfTails : MethodName := ⟨RX1, "depthOfTails", "(I)I"⟩
abbrev cX1_depthOfItself : ByteArray := prog_3_method_7_code
def yX1_depthOfItself : MethodName := ⟨RX1, "depthOfItself", "(I)I"⟩
abbrev cX1_frameOf : ByteArray := prog_3_method_8_code
def yX1_frameOf : MethodName := ⟨RX1, "frameOf", "(I)I"⟩
abbrev cX1_greatestOf : ByteArray := prog_3_method_9_code
def yX1_greatestOf : MethodName := ⟨RX1, "greatestOf", "(I)I"⟩
abbrev cX1_leastThatHas : ByteArray := prog_3_method_10_code
def yX1_leastThatHas : MethodName := ⟨RX1, "leastThatHas", "(II)I"⟩
abbrev cX1_leastThatTells : ByteArray := prog_3_method_11_code
def yX1_leastThatTells : MethodName := ⟨RX1, "leastThatTells", "(II)I"⟩
def RX2 : String := "StackDepths$Graph"
def TX2 : u_T := fun k => match k with
  | 0 => ("StackDepths$Graph", "routines", "LStackDepths$Routines;", true)
  | 1 => ("StackDepths$Graph", "pointers", "LStackDepths$Pointers;", true)
  | 2 => ("StackDepths$Graph", "calls", "LStackDepths$Calls;", true)
  | 3 => ("StackDepths$Graph", "outdated", "Z", false)
  | 4 => ("StackDepths$Graph", "plain", "[I", true)
  | 5 => ("StackDepths$Graph", "tails", "[I", true)
  | 6 => ("StackDepths$Graph", "reached", "[I", true)
  | 7 => ("StackDepths$Graph", "together", "[I", true)
  | 8 => ("StackDepths$Graph", "ringed", "I", false)
  | 9 => ("StackDepths$Graph", "leaders", "[I", true)
  | _ => ("StackDepths$Graph", "leading", "I", false)
def tyX2 : Nat → FieldType := fun k => match k with
  | 0 => .object "StackDepths$Routines"
  | 1 => .object "StackDepths$Pointers"
  | 2 => .object "StackDepths$Calls"
  | 3 => .boolean
  | 4 => .array .int
  | 5 => .array .int
  | 6 => .array .int
  | 7 => .array .int
  | 8 => .int
  | 9 => .array .int
  | _ => .int
theorem nmX2 : ∀ a, a < 11 → ∀ b, b < 11 → a ≠ b → (TX2 a).2.1 ≠ (TX2 b).2.1 := by decide +kernel
theorem tyX2_ok : ∀ k, k < 11 → parseFieldDescriptor (TX2 k).2.2.1 = some (tyX2 k) := by decide +kernel
abbrev cX2_init : ByteArray := prog_4_method_1_code
def yX2_init : MethodName := ⟨RX2, "<init>", "(LStackDepths$Routines;LStackDepths$Pointers;LStackDepths$Calls;)V"⟩
abbrev cX2_outdate : ByteArray := prog_4_method_2_code
def yX2_outdate : MethodName := ⟨RX2, "outdate", "()V"⟩
abbrev cX2_refresh : ByteArray := prog_4_method_3_code
def yX2_refresh : MethodName := ⟨RX2, "refresh", "()V"⟩
abbrev cX2_selfAndReached : ByteArray := prog_4_method_4_code
def yX2_selfAndReached : MethodName := ⟨RX2, "selfAndReached", "(I)I"⟩
abbrev cX2_howManyReach : ByteArray := prog_4_method_5_code
def yX2_howManyReach : MethodName := ⟨RX2, "howManyReach", "(I)I"⟩
abbrev cX2_howManyRings : ByteArray := prog_4_method_6_code
def yX2_howManyRings : MethodName := ⟨RX2, "howManyRings", "()I"⟩
abbrev cX2_drawCalls : ByteArray := prog_4_method_7_code
def yX2_drawCalls : MethodName := ⟨RX2, "drawCalls", "()V"⟩
abbrev cX2_closeReach : ByteArray := prog_4_method_8_code
def yX2_closeReach : MethodName := ⟨RX2, "closeReach", "()V"⟩
abbrev cX2_gatherTogether : ByteArray := prog_4_method_9_code
def yX2_gatherTogether : MethodName := ⟨RX2, "gatherTogether", "()V"⟩
abbrev cX2_markRings : ByteArray := prog_4_method_10_code
def yX2_markRings : MethodName := ⟨RX2, "markRings", "()V"⟩
abbrev cX2_orderLeaders : ByteArray := prog_4_method_11_code
def yX2_orderLeaders : MethodName := ⟨RX2, "orderLeaders", "()V"⟩
def RX3 : String := "StackDepths$Interrupts"
def TX3 : u_T := fun k => match k with
  | 0 => ("StackDepths$Interrupts", "ranks", "[I", true)
  | 1 => ("StackDepths$Interrupts", "routines", "[I", true)
  | 2 => ("StackDepths$Interrupts", "saved", "[I", true)
  | _ => ("StackDepths$Interrupts", "size", "I", false)
def tyX3 : Nat → FieldType := fun k => match k with
  | 0 => .array .int
  | 1 => .array .int
  | 2 => .array .int
  | _ => .int
theorem nmX3 : ∀ a, a < 4 → ∀ b, b < 4 → a ≠ b → (TX3 a).2.1 ≠ (TX3 b).2.1 := by decide +kernel
theorem tyX3_ok : ∀ k, k < 4 → parseFieldDescriptor (TX3 k).2.2.1 = some (tyX3 k) := by decide +kernel
abbrev cX3_init : ByteArray := prog_5_method_1_code
def yX3_init : MethodName := ⟨RX3, "<init>", "()V"⟩
abbrev cX3_add : ByteArray := prog_5_method_2_code
def yX3_add : MethodName := ⟨RX3, "add", "(III)I"⟩
abbrev cX3_topAbove : ByteArray := prog_5_method_3_code
def yX3_topAbove : MethodName := ⟨RX3, "topAbove", "(I[I)I"⟩
abbrev cX3_greatestAt : ByteArray := prog_5_method_4_code
def yX3_greatestAt : MethodName := ⟨RX3, "greatestAt", "(I[I)I"⟩
def RX4 : String := "StackDepths$Pointers"
def TX4 : u_T := fun k => match k with
  | 0 => ("StackDepths$Pointers", "taken", "[I", true)
  | 1 => ("StackDepths$Pointers", "sources", "[I", true)
  | _ => ("StackDepths$Pointers", "goals", "[I", true)
def tyX4 : Nat → FieldType := fun k => match k with
  | 0 => .array .int
  | 1 => .array .int
  | _ => .array .int
theorem nmX4 : ∀ a, a < 3 → ∀ b, b < 3 → a ≠ b → (TX4 a).2.1 ≠ (TX4 b).2.1 := by decide +kernel
theorem tyX4_ok : ∀ k, k < 3 → parseFieldDescriptor (TX4 k).2.2.1 = some (tyX4 k) := by decide +kernel
abbrev cX4_init : ByteArray := prog_6_method_1_code
def yX4_init : MethodName := ⟨RX4, "<init>", "()V"⟩
abbrev cX4_addTaken : ByteArray := prog_6_method_2_code
def yX4_addTaken : MethodName := ⟨RX4, "addTaken", "(II)V"⟩
abbrev cX4_addSource : ByteArray := prog_6_method_3_code
def yX4_addSource : MethodName := ⟨RX4, "addSource", "(II)V"⟩
abbrev cX4_spreadGoals : ByteArray := prog_6_method_4_code
def yX4_spreadGoals : MethodName := ⟨RX4, "spreadGoals", "()V"⟩
abbrev cX4_unionOf : ByteArray := prog_6_method_5_code
def yX4_unionOf : MethodName := ⟨RX4, "unionOf", "([II)I"⟩
def RX5 : String := "StackDepths$Routines"
def TX5 : u_T := fun k => match k with
  | 0 => ("StackDepths$Routines", "frames", "[I", true)
  | 1 => ("StackDepths$Routines", "turns", "[I", true)
  | _ => ("StackDepths$Routines", "size", "I", false)
def tyX5 : Nat → FieldType := fun k => match k with
  | 0 => .array .int
  | 1 => .array .int
  | _ => .int
theorem nmX5 : ∀ a, a < 3 → ∀ b, b < 3 → a ≠ b → (TX5 a).2.1 ≠ (TX5 b).2.1 := by decide +kernel
theorem tyX5_ok : ∀ k, k < 3 → parseFieldDescriptor (TX5 k).2.2.1 = some (tyX5 k) := by decide +kernel
abbrev cX5_init : ByteArray := prog_7_method_1_code
def yX5_init : MethodName := ⟨RX5, "<init>", "()V"⟩
abbrev cX5_add : ByteArray := prog_7_method_2_code
def yX5_add : MethodName := ⟨RX5, "add", "(I)I"⟩
abbrev cX5_withoutTurns : ByteArray := prog_7_method_3_code
def yX5_withoutTurns : MethodName := ⟨RX5, "withoutTurns", "()I"⟩
def RX6 : String := "StackDepths$Sharing"
def TX6 : u_T := fun k => match k with
  | 0 => ("StackDepths$Sharing", "rooms", "[I", true)
  | 1 => ("StackDepths$Sharing", "kept", "[I", true)
  | 2 => ("StackDepths$Sharing", "tried", "[I", true)
  | 3 => ("StackDepths$Sharing", "members", "[I", true)
  | 4 => ("StackDepths$Sharing", "widths", "[I", true)
  | _ => ("StackDepths$Sharing", "least", "I", false)
def tyX6 : Nat → FieldType := fun k => match k with
  | 0 => .array .int
  | 1 => .array .int
  | 2 => .array .int
  | 3 => .array .int
  | 4 => .array .int
  | _ => .int
theorem nmX6 : ∀ a, a < 6 → ∀ b, b < 6 → a ≠ b → (TX6 a).2.1 ≠ (TX6 b).2.1 := by decide +kernel
theorem tyX6_ok : ∀ k, k < 6 → parseFieldDescriptor (TX6 k).2.2.1 = some (tyX6 k) := by decide +kernel
abbrev cX6_init : ByteArray := prog_8_method_1_code
def yX6_init : MethodName := ⟨RX6, "<init>", "()V"⟩
abbrev cX6_divide : ByteArray := prog_8_method_2_code
def yX6_divide : MethodName := ⟨RX6, "divide", "(LStackDepths$Tasks;)I"⟩
abbrev cX6_place : ByteArray := prog_8_method_3_code
def yX6_place : MethodName := ⟨RX6, "place", "(LStackDepths$Tasks;III)V"⟩
abbrev cX6_keep : ByteArray := prog_8_method_4_code
def yX6_keep : MethodName := ⟨RX6, "keep", "(I)V"⟩
def RX7 : String := "StackDepths$Sheet"
def TX7 : u_T := fun k => match k with
  | 0 => ("StackDepths$Sheet", "cells", "[I", true)
  | 1 => ("StackDepths$Sheet", "lane", "I", false)
  | _ => ("StackDepths$Sheet", "length", "I", false)
def tyX7 : Nat → FieldType := fun k => match k with
  | 0 => .array .int
  | 1 => .int
  | _ => .int
theorem nmX7 : ∀ a, a < 3 → ∀ b, b < 3 → a ≠ b → (TX7 a).2.1 ≠ (TX7 b).2.1 := by decide +kernel
theorem tyX7_ok : ∀ k, k < 3 → parseFieldDescriptor (TX7 k).2.2.1 = some (tyX7 k) := by decide +kernel
abbrev cX7_init : ByteArray := prog_9_method_1_code
def yX7_init : MethodName := ⟨RX7, "<init>", "()V"⟩
abbrev cX7_isNothing : ByteArray := prog_9_method_2_code
def yX7_isNothing : MethodName := ⟨RX7, "isNothing", "()Z"⟩
abbrev cX7_makeNew : ByteArray := prog_9_method_3_code
def yX7_makeNew : MethodName := ⟨RX7, "makeNew", "(II)V"⟩
abbrev cX7_put : ByteArray := prog_9_method_4_code
def yX7_put : MethodName := ⟨RX7, "put", "(II)V"⟩
abbrev cX7_holdsCall : ByteArray := prog_9_method_5_code
def yX7_holdsCall : MethodName := ⟨RX7, "holdsCall", "(II)Z"⟩
def RX8 : String := "StackDepths$Tasks"
def TX8 : u_T := fun k => match k with
  | 0 => ("StackDepths$Tasks", "routines", "[I", true)
  | 1 => ("StackDepths$Tasks", "ranks", "[I", true)
  | 2 => ("StackDepths$Tasks", "guards", "[I", true)
  | 3 => ("StackDepths$Tasks", "apart", "[I", true)
  | _ => ("StackDepths$Tasks", "size", "I", false)
def tyX8 : Nat → FieldType := fun k => match k with
  | 0 => .array .int
  | 1 => .array .int
  | 2 => .array .int
  | 3 => .array .int
  | _ => .int
theorem nmX8 : ∀ a, a < 5 → ∀ b, b < 5 → a ≠ b → (TX8 a).2.1 ≠ (TX8 b).2.1 := by decide +kernel
theorem tyX8_ok : ∀ k, k < 5 → parseFieldDescriptor (TX8 k).2.2.1 = some (tyX8 k) := by decide +kernel
abbrev cX8_init : ByteArray := prog_10_method_1_code
def yX8_init : MethodName := ⟨RX8, "<init>", "()V"⟩
abbrev cX8_add : ByteArray := prog_10_method_2_code
def yX8_add : MethodName := ⟨RX8, "add", "(III)I"⟩
abbrev cX8_setApart : ByteArray := prog_10_method_3_code
def yX8_setApart : MethodName := ⟨RX8, "setApart", "(IIZ)V"⟩
def RX9 : String := "StackDepths$Trail"
def TX9 : u_T := fun k => match k with
  | 0 => ("StackDepths$Trail", "standing", "[I", true)
  | 1 => ("StackDepths$Trail", "framed", "[I", true)
  | 2 => ("StackDepths$Trail", "height", "I", false)
  | 3 => ("StackDepths$Trail", "deep", "I", false)
  | 4 => ("StackDepths$Trail", "deepest", "I", false)
  | 5 => ("StackDepths$Trail", "strange", "I", false)
  | 6 => ("StackDepths$Trail", "tooOften", "I", false)
  | _ => ("StackDepths$Trail", "first", "I", false)
def tyX9 : Nat → FieldType := fun k => match k with
  | 0 => .array .int
  | 1 => .array .int
  | 2 => .int
  | 3 => .int
  | 4 => .int
  | 5 => .int
  | 6 => .int
  | _ => .int
theorem nmX9 : ∀ a, a < 8 → ∀ b, b < 8 → a ≠ b → (TX9 a).2.1 ≠ (TX9 b).2.1 := by decide +kernel
theorem tyX9_ok : ∀ k, k < 8 → parseFieldDescriptor (TX9 k).2.2.1 = some (tyX9 k) := by decide +kernel
abbrev cX9_init : ByteArray := prog_11_method_1_code
def yX9_init : MethodName := ⟨RX9, "<init>", "()V"⟩
abbrev cX9_begin : ByteArray := prog_11_method_2_code
def yX9_begin : MethodName := ⟨RX9, "begin", "(I)V"⟩
abbrev cX9_push : ByteArray := prog_11_method_3_code
def yX9_push : MethodName := ⟨RX9, "push", "(II)V"⟩
abbrev cX9_pop : ByteArray := prog_11_method_4_code
def yX9_pop : MethodName := ⟨RX9, "pop", "()V"⟩
abbrev cX9_onTop : ByteArray := prog_11_method_5_code
def yX9_onTop : MethodName := ⟨RX9, "onTop", "()I"⟩
abbrev cX9_markStep : ByteArray := prog_11_method_6_code
def yX9_markStep : MethodName := ⟨RX9, "markStep", "(Z)V"⟩
abbrev cX9_howOften : ByteArray := prog_11_method_7_code
def yX9_howOften : MethodName := ⟨RX9, "howOften", "(I)I"⟩
def RX10 : String := "StackDepths"
def TX10 : u_T := fun k => match k with
  | 0 => ("StackDepths", "routines", "LStackDepths$Routines;", true)
  | 1 => ("StackDepths", "pointers", "LStackDepths$Pointers;", true)
  | 2 => ("StackDepths", "calls", "LStackDepths$Calls;", true)
  | 3 => ("StackDepths", "graph", "LStackDepths$Graph;", true)
  | 4 => ("StackDepths", "depths", "LStackDepths$Depths;", true)
  | 5 => ("StackDepths", "interrupts", "LStackDepths$Interrupts;", true)
  | 6 => ("StackDepths", "tasks", "LStackDepths$Tasks;", true)
  | 7 => ("StackDepths", "sharing", "LStackDepths$Sharing;", true)
  | 8 => ("StackDepths", "trail", "LStackDepths$Trail;", true)
  | _ => ("StackDepths", "sheets", "[LStackDepths$Sheet;", true)
def tyX10 : Nat → FieldType := fun k => match k with
  | 0 => .object "StackDepths$Routines"
  | 1 => .object "StackDepths$Pointers"
  | 2 => .object "StackDepths$Calls"
  | 3 => .object "StackDepths$Graph"
  | 4 => .object "StackDepths$Depths"
  | 5 => .object "StackDepths$Interrupts"
  | 6 => .object "StackDepths$Tasks"
  | 7 => .object "StackDepths$Sharing"
  | 8 => .object "StackDepths$Trail"
  | _ => .array (.object "StackDepths$Sheet")
theorem nmX10 : ∀ a, a < 10 → ∀ b, b < 10 → a ≠ b → (TX10 a).2.1 ≠ (TX10 b).2.1 := by decide +kernel
theorem tyX10_ok : ∀ k, k < 10 → parseFieldDescriptor (TX10 k).2.2.1 = some (tyX10 k) := by decide +kernel
abbrev cX10_init : ByteArray := prog_1_method_1_code
def yX10_init : MethodName := ⟨RX10, "<init>", "()V"⟩
abbrev cX10_routine : ByteArray := prog_1_method_2_code
def yX10_routine : MethodName := ⟨RX10, "routine", "(I)I"⟩
abbrev cX10_frame : ByteArray := prog_1_method_3_code
def yX10_frame : MethodName := ⟨RX10, "frame", "(II)I"⟩
abbrev cX10_turns : ByteArray := prog_1_method_4_code
def yX10_turns : MethodName := ⟨RX10, "turns", "(II)I"⟩
abbrev cX10_call : ByteArray := prog_1_method_5_code
def yX10_call : MethodName := ⟨RX10, "call", "(IIZZ)I"⟩
abbrev cX10_cut : ByteArray := prog_1_method_6_code
def yX10_cut : MethodName := ⟨RX10, "cut", "(IIZZ)I"⟩
abbrev cX10_take : ByteArray := prog_1_method_7_code
def yX10_take : MethodName := ⟨RX10, "take", "(II)I"⟩
abbrev cX10_flow : ByteArray := prog_1_method_8_code
def yX10_flow : MethodName := ⟨RX10, "flow", "(II)I"⟩
abbrev cX10_goals : ByteArray := prog_1_method_9_code
def yX10_goals : MethodName := ⟨RX10, "goals", "(I)I"⟩
abbrev cX10_about : ByteArray := prog_1_method_10_code
def yX10_about : MethodName := ⟨RX10, "about", "(II)I"⟩
abbrev cX10_depth : ByteArray := prog_1_method_11_code
def yX10_depth : MethodName := ⟨RX10, "depth", "(I)I"⟩
abbrev cX10_way : ByteArray := prog_1_method_12_code
def yX10_way : MethodName := ⟨RX10, "way", "(II)I"⟩
abbrev cX10_endless : ByteArray := prog_1_method_13_code
def yX10_endless : MethodName := ⟨RX10, "endless", "(I)I"⟩
abbrev cX10_interrupt : ByteArray := prog_1_method_14_code
def yX10_interrupt : MethodName := ⟨RX10, "interrupt", "(III)I"⟩
abbrev cX10_task : ByteArray := prog_1_method_15_code
def yX10_task : MethodName := ⟨RX10, "task", "(III)I"⟩
abbrev cX10_total : ByteArray := prog_1_method_16_code
def yX10_total : MethodName := ⟨RX10, "total", "(II)I"⟩
abbrev cX10_apart : ByteArray := prog_1_method_17_code
def yX10_apart : MethodName := ⟨RX10, "apart", "(IIZ)I"⟩
abbrev cX10_shared : ByteArray := prog_1_method_18_code
def yX10_shared : MethodName := ⟨RX10, "shared", "()I"⟩
abbrev cX10_group : ByteArray := prog_1_method_19_code
def yX10_group : MethodName := ⟨RX10, "group", "(I)I"⟩
abbrev cX10_saves : ByteArray := prog_1_method_20_code
def yX10_saves : MethodName := ⟨RX10, "saves", "(II)I"⟩
abbrev cX10_best : ByteArray := prog_1_method_21_code
def yX10_best : MethodName := ⟨RX10, "best", "(I)I"⟩
abbrev cX10_run : ByteArray := prog_1_method_22_code
def yX10_run : MethodName := ⟨RX10, "run", "(I)I"⟩
abbrev cX10_enter : ByteArray := prog_1_method_23_code
def yX10_enter : MethodName := ⟨RX10, "enter", "(I)I"⟩
abbrev cX10_over : ByteArray := prog_1_method_24_code
def yX10_over : MethodName := ⟨RX10, "over", "(I)I"⟩
abbrev cX10_leave : ByteArray := prog_1_method_25_code
def yX10_leave : MethodName := ⟨RX10, "leave", "()I"⟩
abbrev cX10_ran : ByteArray := prog_1_method_26_code
def yX10_ran : MethodName := ⟨RX10, "ran", "(I)I"⟩
abbrev cX10_sheet : ByteArray := prog_1_method_27_code
def yX10_sheet : MethodName := ⟨RX10, "sheet", "(III)I"⟩
abbrev cX10_lay : ByteArray := prog_1_method_28_code
def yX10_lay : MethodName := ⟨RX10, "lay", "(III)I"⟩
abbrev cX10_scan : ByteArray := prog_1_method_29_code
def yX10_scan : MethodName := ⟨RX10, "scan", "(IIII)I"⟩
abbrev cX10_count : ByteArray := prog_1_method_30_code
def yX10_count : MethodName := ⟨RX10, "count", "(I)I"⟩
abbrev cX10_isRoutine : ByteArray := prog_1_method_31_code
def yX10_isRoutine : MethodName := ⟨RX10, "isRoutine", "(I)Z"⟩
abbrev cX10_isPointer : ByteArray := prog_1_method_32_code
def yX10_isPointer : MethodName := ⟨RX10, "isPointer", "(I)Z"⟩
abbrev cX10_isTask : ByteArray := prog_1_method_33_code
def yX10_isTask : MethodName := ⟨RX10, "isTask", "(I)Z"⟩
abbrev cX10_isSheet : ByteArray := prog_1_method_34_code
def yX10_isSheet : MethodName := ⟨RX10, "isSheet", "(I)Z"⟩
abbrev cX10_isLane : ByteArray := prog_1_method_35_code
def yX10_isLane : MethodName := ⟨RX10, "isLane", "(I)Z"⟩
abbrev cX10_within : ByteArray := prog_1_method_36_code
def yX10_within : MethodName := ⟨RX10, "within", "(III)Z"⟩
abbrev cX10_holds : ByteArray := prog_1_method_37_code
def yX10_holds : MethodName := ⟨RX10, "holds", "(II)Z"⟩
abbrev cX10_leastOf : ByteArray := prog_1_method_38_code
def yX10_leastOf : MethodName := ⟨RX10, "leastOf", "(I)I"⟩
abbrev cX10_plus : ByteArray := prog_1_method_39_code
def yX10_plus : MethodName := ⟨RX10, "plus", "(II)I"⟩
abbrev cX10_greater : ByteArray := prog_1_method_40_code
def yX10_greater : MethodName := ⟨RX10, "greater", "(II)I"⟩
abbrev cX10_kindOf : ByteArray := prog_1_method_41_code
def yX10_kindOf : MethodName := ⟨RX10, "kindOf", "(ZZ)I"⟩
abbrev cX10_canBeCall : ByteArray := prog_1_method_42_code
def yX10_canBeCall : MethodName := ⟨RX10, "canBeCall", "(III)Z"⟩
abbrev cX10_refusalOfCall : ByteArray := prog_1_method_43_code
def yX10_refusalOfCall : MethodName := ⟨RX10, "refusalOfCall", "(III)I"⟩
abbrev cX10_addFromSheet : ByteArray := prog_1_method_44_code
def yX10_addFromSheet : MethodName := ⟨RX10, "addFromSheet", "(LStackDepths$Sheet;II)I"⟩
abbrev cX10_removeFromSheet : ByteArray := prog_1_method_45_code
def yX10_removeFromSheet : MethodName := ⟨RX10, "removeFromSheet", "(LStackDepths$Sheet;II)V"⟩
abbrev cX10_totalAsMeasured : ByteArray := prog_1_method_46_code
def yX10_totalAsMeasured : MethodName := ⟨RX10, "totalAsMeasured", "(I)I"⟩
abbrev cX10_roomAsMeasured : ByteArray := prog_1_method_47_code
def yX10_roomAsMeasured : MethodName := ⟨RX10, "roomAsMeasured", "(I)I"⟩
abbrev cX10_totalWithout : ByteArray := prog_1_method_48_code
def yX10_totalWithout : MethodName := ⟨RX10, "totalWithout", "(II)I"⟩
abbrev cX10_shareRooms : ByteArray := prog_1_method_49_code
def yX10_shareRooms : MethodName := ⟨RX10, "shareRooms", "()I"⟩
abbrev cX10_pushMarked : ByteArray := prog_1_method_50_code
def yX10_pushMarked : MethodName := ⟨RX10, "pushMarked", "(I)I"⟩
abbrev cX10_stayedWithinDepth : ByteArray := prog_1_method_51_code
def yX10_stayedWithinDepth : MethodName := ⟨RX10, "stayedWithinDepth", "()Z"⟩
def RX11 : String := "StackDepthsModel"
def TX11 : u_T := fun k => match k with
  | 0 => ("StackDepthsModel", "routines", "I", false)
  | 1 => ("StackDepthsModel", "frames", "[I", true)
  | 2 => ("StackDepthsModel", "turnsOf", "[I", true)
  | 3 => ("StackDepthsModel", "calls", "I", false)
  | 4 => ("StackDepthsModel", "callFrom", "[I", true)
  | 5 => ("StackDepthsModel", "callTo", "[I", true)
  | 6 => ("StackDepthsModel", "callSort", "[I", true)
  | 7 => ("StackDepthsModel", "taken", "[I", true)
  | 8 => ("StackDepthsModel", "flows", "[I", true)
  | 9 => ("StackDepthsModel", "goalsOf", "[I", true)
  | 10 => ("StackDepthsModel", "plain", "[I", true)
  | 11 => ("StackDepthsModel", "tails", "[I", true)
  | 12 => ("StackDepthsModel", "reached", "[I", true)
  | 13 => ("StackDepthsModel", "together", "[I", true)
  | 14 => ("StackDepthsModel", "depths", "[I", true)
  | 15 => ("StackDepthsModel", "interrupts", "I", false)
  | 16 => ("StackDepthsModel", "ranks", "[I", true)
  | 17 => ("StackDepthsModel", "handlers", "[I", true)
  | 18 => ("StackDepthsModel", "saved", "[I", true)
  | 19 => ("StackDepthsModel", "tasks", "I", false)
  | 20 => ("StackDepthsModel", "mains", "[I", true)
  | 21 => ("StackDepthsModel", "taskRank", "[I", true)
  | 22 => ("StackDepthsModel", "guards", "[I", true)
  | 23 => ("StackDepthsModel", "apartOf", "[I", true)
  | 24 => ("StackDepthsModel", "groups", "[I", true)
  | 25 => ("StackDepthsModel", "leastGroups", "[I", true)
  | 26 => ("StackDepthsModel", "leastSum", "I", false)
  | 27 => ("StackDepthsModel", "wasRun", "Z", false)
  | 28 => ("StackDepthsModel", "height", "I", false)
  | 29 => ("StackDepthsModel", "stack", "[I", true)
  | 30 => ("StackDepthsModel", "size", "[I", true)
  | 31 => ("StackDepthsModel", "firstOne", "I", false)
  | 32 => ("StackDepthsModel", "deep", "I", false)
  | 33 => ("StackDepthsModel", "deepest", "I", false)
  | 34 => ("StackDepthsModel", "strange", "I", false)
  | 35 => ("StackDepthsModel", "often", "I", false)
  | 36 => ("StackDepthsModel", "lanes", "[I", true)
  | 37 => ("StackDepthsModel", "lengths", "[I", true)
  | _ => ("StackDepthsModel", "cells", "[I", true)
def tyX11 : Nat → FieldType := fun k => match k with
  | 0 => .int
  | 1 => .array .int
  | 2 => .array .int
  | 3 => .int
  | 4 => .array .int
  | 5 => .array .int
  | 6 => .array .int
  | 7 => .array .int
  | 8 => .array .int
  | 9 => .array .int
  | 10 => .array .int
  | 11 => .array .int
  | 12 => .array .int
  | 13 => .array .int
  | 14 => .array .int
  | 15 => .int
  | 16 => .array .int
  | 17 => .array .int
  | 18 => .array .int
  | 19 => .int
  | 20 => .array .int
  | 21 => .array .int
  | 22 => .array .int
  | 23 => .array .int
  | 24 => .array .int
  | 25 => .array .int
  | 26 => .int
  | 27 => .boolean
  | 28 => .int
  | 29 => .array .int
  | 30 => .array .int
  | 31 => .int
  | 32 => .int
  | 33 => .int
  | 34 => .int
  | 35 => .int
  | 36 => .array .int
  | 37 => .array .int
  | _ => .array .int
theorem nmX11 : ∀ a, a < 39 → ∀ b, b < 39 → a ≠ b → (TX11 a).2.1 ≠ (TX11 b).2.1 := by decide +kernel
theorem tyX11_ok : ∀ k, k < 39 → parseFieldDescriptor (TX11 k).2.2.1 = some (tyX11 k) := by decide +kernel
abbrev cX11_init : ByteArray := prog_13_method_1_code
def yX11_init : MethodName := ⟨RX11, "<init>", "()V"⟩
abbrev cX11_in : ByteArray := prog_13_method_3_code
def yX11_in : MethodName := ⟨RX11, "in", "(JJJ)Z"⟩
abbrev cX11_is : ByteArray := prog_13_method_4_code
def yX11_is : MethodName := ⟨RX11, "is", "(I)Z"⟩
abbrev cX11_isPointer : ByteArray := prog_13_method_5_code
def yX11_isPointer : MethodName := ⟨RX11, "isPointer", "(I)Z"⟩
abbrev cX11_routine : ByteArray := prog_13_method_6_code
def yX11_routine : MethodName := ⟨RX11, "routine", "(I)I"⟩
abbrev cX11_frame : ByteArray := prog_13_method_7_code
def yX11_frame : MethodName := ⟨RX11, "frame", "(II)I"⟩
abbrev cX11_turns : ByteArray := prog_13_method_8_code
def yX11_turns : MethodName := ⟨RX11, "turns", "(II)I"⟩
abbrev cX11_find : ByteArray := prog_13_method_9_code
def yX11_find : MethodName := ⟨RX11, "find", "(III)I"⟩
abbrev cX11_called : ByteArray := prog_13_method_10_code
def yX11_called : MethodName := ⟨RX11, "called", "(III)I"⟩
abbrev cX11_sortOf : ByteArray := prog_13_method_11_code
def yX11_sortOf : MethodName := ⟨RX11, "sortOf", "(ZZ)I"⟩
abbrev cX11_call : ByteArray := prog_13_method_12_code
def yX11_call : MethodName := ⟨RX11, "call", "(IIZZ)I"⟩
abbrev cX11_cut : ByteArray := prog_13_method_13_code
def yX11_cut : MethodName := ⟨RX11, "cut", "(IIZZ)I"⟩
abbrev cX11_take : ByteArray := prog_13_method_14_code
def yX11_take : MethodName := ⟨RX11, "take", "(II)I"⟩
abbrev cX11_flow : ByteArray := prog_13_method_15_code
def yX11_flow : MethodName := ⟨RX11, "flow", "(II)I"⟩
abbrev cX11_layGoals : ByteArray := prog_13_method_16_code
def yX11_layGoals : MethodName := ⟨RX11, "layGoals", "()V"⟩
abbrev cX11_goals : ByteArray := prog_13_method_17_code
def yX11_goals : MethodName := ⟨RX11, "goals", "(I)I"⟩
abbrev cX11_layNet : ByteArray := prog_13_method_18_code
def yX11_layNet : MethodName := ⟨RX11, "layNet", "()V"⟩
abbrev cX11_isRing : ByteArray := prog_13_method_19_code
def yX11_isRing : MethodName := ⟨RX11, "isRing", "(I)Z"⟩
abbrev cX11_leastOf : ByteArray := prog_13_method_20_code
def yX11_leastOf : MethodName := ⟨RX11, "leastOf", "(I)I"⟩
abbrev cX11_sizeOf : ByteArray := prog_13_method_21_code
def yX11_sizeOf : MethodName := ⟨RX11, "sizeOf", "(I)I"⟩
abbrev cX11_about : ByteArray := prog_13_method_22_code
def yX11_about : MethodName := ⟨RX11, "about", "(II)I"⟩
abbrev cX11_greatest : ByteArray := prog_13_method_23_code
def yX11_greatest : MethodName := ⟨RX11, "greatest", "(I)I"⟩
abbrev cX11_own : ByteArray := prog_13_method_24_code
def yX11_own : MethodName := ⟨RX11, "own", "(I)I"⟩
abbrev cX11_reckoned : ByteArray := prog_13_method_25_code
def yX11_reckoned : MethodName := ⟨RX11, "reckoned", "(I)I"⟩
abbrev cX11_layDepths : ByteArray := prog_13_method_26_code
def yX11_layDepths : MethodName := ⟨RX11, "layDepths", "()V"⟩
abbrev cX11_depth : ByteArray := prog_13_method_27_code
def yX11_depth : MethodName := ⟨RX11, "depth", "(I)I"⟩
abbrev cX11_reachesRing : ByteArray := prog_13_method_28_code
def yX11_reachesRing : MethodName := ⟨RX11, "reachesRing", "(I)Z"⟩
abbrev cX11_nextOf : ByteArray := prog_13_method_29_code
def yX11_nextOf : MethodName := ⟨RX11, "nextOf", "(I)I"⟩
abbrev cX11_way : ByteArray := prog_13_method_30_code
def yX11_way : MethodName := ⟨RX11, "way", "(II)I"⟩
abbrev cX11_endless : ByteArray := prog_13_method_31_code
def yX11_endless : MethodName := ⟨RX11, "endless", "(I)I"⟩
abbrev cX11_interrupt : ByteArray := prog_13_method_32_code
def yX11_interrupt : MethodName := ⟨RX11, "interrupt", "(III)I"⟩
abbrev cX11_task : ByteArray := prog_13_method_33_code
def yX11_task : MethodName := ⟨RX11, "task", "(III)I"⟩
abbrev cX11_isTask : ByteArray := prog_13_method_34_code
def yX11_isTask : MethodName := ⟨RX11, "isTask", "(I)Z"⟩
abbrev cX11_top : ByteArray := prog_13_method_35_code
def yX11_top : MethodName := ⟨RX11, "top", "(I)I"⟩
abbrev cX11_totalOf : ByteArray := prog_13_method_36_code
def yX11_totalOf : MethodName := ⟨RX11, "totalOf", "(I)I"⟩
abbrev cX11_total : ByteArray := prog_13_method_37_code
def yX11_total : MethodName := ⟨RX11, "total", "(II)I"⟩
abbrev cX11_apart : ByteArray := prog_13_method_38_code
def yX11_apart : MethodName := ⟨RX11, "apart", "(IIZ)I"⟩
abbrev cX11_sumOf : ByteArray := prog_13_method_39_code
def yX11_sumOf : MethodName := ⟨RX11, "sumOf", "()I"⟩
abbrev cX11_highest : ByteArray := prog_13_method_40_code
def yX11_highest : MethodName := ⟨RX11, "highest", "(I)I"⟩
abbrev cX11_nextWay : ByteArray := prog_13_method_41_code
def yX11_nextWay : MethodName := ⟨RX11, "nextWay", "()Z"⟩
abbrev cX11_share : ByteArray := prog_13_method_42_code
def yX11_share : MethodName := ⟨RX11, "share", "()Z"⟩
abbrev cX11_shared : ByteArray := prog_13_method_43_code
def yX11_shared : MethodName := ⟨RX11, "shared", "()I"⟩
abbrev cX11_group : ByteArray := prog_13_method_44_code
def yX11_group : MethodName := ⟨RX11, "group", "(I)I"⟩
abbrev cX11_savesOf : ByteArray := prog_13_method_45_code
def yX11_savesOf : MethodName := ⟨RX11, "savesOf", "(II)I"⟩
abbrev cX11_saves : ByteArray := prog_13_method_46_code
def yX11_saves : MethodName := ⟨RX11, "saves", "(II)I"⟩
abbrev cX11_best : ByteArray := prog_13_method_47_code
def yX11_best : MethodName := ⟨RX11, "best", "(I)I"⟩
abbrev cX11_put : ByteArray := prog_13_method_48_code
def yX11_put : MethodName := ⟨RX11, "put", "(I)V"⟩
abbrev cX11_pull : ByteArray := prog_13_method_49_code
def yX11_pull : MethodName := ⟨RX11, "pull", "()V"⟩
abbrev cX11_run : ByteArray := prog_13_method_50_code
def yX11_run : MethodName := ⟨RX11, "run", "(I)I"⟩
abbrev cX11_enter : ByteArray := prog_13_method_51_code
def yX11_enter : MethodName := ⟨RX11, "enter", "(I)I"⟩
abbrev cX11_over : ByteArray := prog_13_method_52_code
def yX11_over : MethodName := ⟨RX11, "over", "(I)I"⟩
abbrev cX11_leave : ByteArray := prog_13_method_53_code
def yX11_leave : MethodName := ⟨RX11, "leave", "()I"⟩
abbrev cX11_ran : ByteArray := prog_13_method_54_code
def yX11_ran : MethodName := ⟨RX11, "ran", "(I)I"⟩
abbrev cX11_sheet : ByteArray := prog_13_method_55_code
def yX11_sheet : MethodName := ⟨RX11, "sheet", "(III)I"⟩
abbrev cX11_lay : ByteArray := prog_13_method_56_code
def yX11_lay : MethodName := ⟨RX11, "lay", "(III)I"⟩
abbrev cX11_scan : ByteArray := prog_13_method_57_code
def yX11_scan : MethodName := ⟨RX11, "scan", "(IIII)I"⟩
abbrev cX11_count : ByteArray := prog_13_method_58_code
def yX11_count : MethodName := ⟨RX11, "count", "(I)I"⟩
def RJ6 : String := "java/lang/Integer"
def TJ6 : u_T := fun k => match k with
  | _ => ("", "", "", false)
def tyJ6 : Nat → FieldType := fun k => match k with
  | _ => .int
abbrev cJ6_bitCount_0f7a4 : ByteArray := prog_14_method_49_code
def yJ6_bitCount_0f7a4 : MethodName := ⟨RJ6, "bitCount", "(I)I"⟩
def RJ9 : String := "java/lang/Math"
def TJ9 : u_T := fun k => match k with
  | _ => ("", "", "", false)
def tyJ9 : Nat → FieldType := fun k => match k with
  | _ => .int
abbrev cJ9_max_7cf53 : ByteArray := prog_15_method_65_code
def yJ9_max_7cf53 : MethodName := ⟨RJ9, "max", "(II)I"⟩
abbrev cJ9_min_7cf53 : ByteArray := prog_15_method_69_code
def yJ9_min_7cf53 : MethodName := ⟨RJ9, "min", "(II)I"⟩
def RL : String := "StackDepthsLaw"
abbrev cL_law : ByteArray := code
def yL_law : MethodName := ⟨RL, "law", "([I)Z"⟩
abbrev vwCl : List vw_C := [(RX0, TX0, 2), (RX1, TX1, 4), (RX2, TX2, 11), (RX3, TX3, 4), (RX4, TX4, 3), (RX5, TX5, 3), (RX6, TX6, 6), (RX7, TX7, 3), (RX8, TX8, 5), (RX9, TX9, 8), (RX10, TX10, 10), (RX11, TX11, 39)]
end
section
/-! the pure layer: a memory of ints over a fixed shape of cells; judgements PW (a point of a method) and CT (a call), shallow over the kit's W and Met -/
abbrev pw_Lay : Type := Launch × (Nat → ClassId) × (Nat → Nat → Nat) × (Nat → Nat) × ClassId × ClassId × ClassId
abbrev pw_l (L : pw_Lay) : Launch := L.1
abbrev pw_G (L : pw_Lay) : va_G := (L.2.1, L.2.2.1)
abbrev pw_ad (L : pw_Lay) : Nat → Nat := L.2.2.2.1
abbrev pw_cI (L : pw_Lay) : ClassId := L.2.2.2.2.1
abbrev pw_cB (L : pw_Lay) : ClassId := L.2.2.2.2.2.1
abbrev pw_cS (L : pw_Lay) : ClassId := L.2.2.2.2.2.2
abbrev pw_Mem : Type := Nat → Nat → Int32
abbrev pw_Sh : Type := (Nat × List (Option Nat)) ⊕ (Nat ⊕ (Nat × List Nat))
/-- a method: its name, its class, its bytes, its locals, what it returns -/
abbrev pw_Md : Type := MethodName × String × ByteArray × Nat × Option FieldType
def pw_shp : List pw_Sh := [.inl (10, [some 1, some 4, some 8, some 14, some 20, some 22, some 26, some 31, some 37, some 40]), .inl (5, [some 2, some 3, none]), .inr (.inl 20), .inr (.inl 20), .inl (4, [some 5, some 6, some 7]), .inr (.inl 8), .inr (.inl 8), .inr (.inl 8), .inl (0, [some 9, none]), .inr (.inr (0, [10, 11, 12, 13])), .inr (.inl 20), .inr (.inl 20), .inr (.inl 20), .inr (.inl 20), .inl (2, [some 1, some 4, some 8, none, some 15, some 16, some 17, some 18, none, some 19, none]), .inr (.inl 20), .inr (.inl 20), .inr (.inl 20), .inr (.inl 20), .inr (.inl 20), .inl (1, [some 1, some 14, none, some 21]), .inr (.inl 20), .inl (3, [some 23, some 24, some 25, none]), .inr (.inl 8), .inr (.inl 8), .inr (.inl 8), .inl (8, [some 27, some 28, some 29, some 30, none]), .inr (.inl 6), .inr (.inl 6), .inr (.inl 6), .inr (.inl 6), .inl (6, [some 32, some 33, some 34, some 35, some 36, none]), .inr (.inl 6), .inr (.inl 6), .inr (.inl 6), .inr (.inl 6), .inr (.inl 6), .inl (9, [some 38, some 39, none, none, none, none, none, none]), .inr (.inl 40), .inr (.inl 40), .inr (.inr (1, [41, 43, 45, 47])), .inl (7, [some 42, none, none]), .inr (.inl 60), .inl (7, [some 44, none, none]), .inr (.inl 60), .inl (7, [some 46, none, none]), .inr (.inl 60), .inl (7, [some 48, none, none]), .inr (.inl 60), .inl (11, [none, some 50, some 51, none, some 52, some 53, some 54, some 55, some 56, some 57, some 58, some 59, some 60, some 61, some 62, none, some 63, some 64, some 65, none, some 66, some 67, some 68, some 69, some 70, some 71, none, none, none, some 72, some 73, none, none, none, none, none, some 74, some 75, some 76]), .inr (.inl 20), .inr (.inl 20), .inr (.inl 60), .inr (.inl 60), .inr (.inl 60), .inr (.inl 8), .inr (.inl 8), .inr (.inl 8), .inr (.inl 20), .inr (.inl 20), .inr (.inl 20), .inr (.inl 20), .inr (.inl 20), .inr (.inl 8), .inr (.inl 8), .inr (.inl 8), .inr (.inl 6), .inr (.inl 6), .inr (.inl 6), .inr (.inl 6), .inr (.inl 6), .inr (.inl 6), .inr (.inl 40), .inr (.inl 40), .inr (.inl 4), .inr (.inl 4), .inr (.inl 240)]
def pw_tr (L : pw_Lay) : Value → Value
  | .ref k => .ref (pw_ad L k)
  | v => v
def pw_up (σ : pw_Mem) (k j : Nat) (v : Int32) : pw_Mem := fun a b => if a = k ∧ b = j then v else σ a b
def pw_fv (L : pw_Lay) (σ : pw_Mem) (k j : Nat) : Option Nat → Value
  | none => .int (σ k j)
  | some r => .ref (pw_ad L r)
def pw_fld (L : pw_Lay) (σ : pw_Mem) (k : Nat) (fs : List (Option Nat)) : List Value := fs.mapIdx (fun j f => pw_fv L σ k j f)
def pw_ent (L : pw_Lay) (σ : pw_Mem) (k : Nat) : pw_Sh → va_E
  | .inl (ci, fs) => .inr (ci, pw_fld L σ k fs)
  | .inr (.inl n) => .inl (pw_cI L, n, .inl (σ k))
  | .inr (.inr (0, rs)) => .inl (pw_cB L, rs.length, .inr (.inr (.inr (.inr (fun i => rs[i]?.map (pw_ad L))))))
  | .inr (.inr (_, rs)) => .inl (pw_cS L, rs.length, .inr (.inr (.inr (.inr (fun i => rs[i]?.map (pw_ad L))))))
def pw_wl (L : pw_Lay) (σ : pw_Mem) : va_W := pw_shp.mapIdx (fun k sh => (pw_ad L k, pw_ent L σ k sh))
abbrev pw_tys (L : pw_Lay) : List (ClassId × FieldType) := [(pw_cI L, .int), (pw_cB L, .array .int), (pw_cS L, .object "StackDepths$Sheet")]
def pw_A (L : pw_Lay) : Nat → Prop := fun q => ∃ k, k < pw_shp.length ∧ q = pw_ad L k
def pw_ws : List Cond := lw_tbl.filter goodWord
theorem pw_in {w : Cond} (h : w ∈ lw_tbl) (hg : goodWord w = true) : w ∈ pw_ws := List.mem_filter.mpr ⟨h, hg⟩
theorem pw_good {ws : List Cond} (h : ∀ w ∈ ws, w ∈ pw_ws) : GoodIn pw_ws ws := fun w hw => ⟨h w hw, good_of_word (List.mem_filter.mp (h w hw)).2⟩
theorem pw_tab {w : Cond} (i : Nat) (h : tables_1[i]? = some w) (hg : goodWord w = true) : w ∈ pw_ws := pw_in (List.mem_append_right _ (List.mem_of_getElem? h)) hg
theorem pw_sel {w : Cond} (i : Nat) (h : (k2_sels lw_privs)[i]? = some w) (hg : goodWord w = true) : w ∈ pw_ws := pw_in (List.mem_append_left _ (List.mem_of_getElem? h)) hg
/-- the nest mates' links -/
abbrev pw_nw (q : String × Nat × MethodName) : Cond := .methodLinkNest q.1 q.2.1 q.2.2 "StackDepths"
def pw_nest : List (String × Nat × MethodName) := [("StackDepths", 9, ⟨"StackDepths$Routines", "<init>", "()V"⟩), ("StackDepths", 18, ⟨"StackDepths$Pointers", "<init>", "()V"⟩), ("StackDepths", 25, ⟨"StackDepths$Calls", "<init>", "()V"⟩), ("StackDepths", 50, ⟨"StackDepths$Interrupts", "<init>", "()V"⟩), ("StackDepths", 57, ⟨"StackDepths$Tasks", "<init>", "()V"⟩), ("StackDepths", 64, ⟨"StackDepths$Sharing", "<init>", "()V"⟩), ("StackDepths", 71, ⟨"StackDepths$Trail", "<init>", "()V"⟩), ("StackDepths", 82, ⟨"StackDepths$Sheet", "<init>", "()V"⟩), ("StackDepths$Calls", 16, ⟨"StackDepths", "holds", "(II)Z"⟩), ("StackDepths$Pointers", 28, ⟨"StackDepths", "holds", "(II)Z"⟩), ("StackDepths$Graph", 64, ⟨"StackDepths", "holds", "(II)Z"⟩), ("StackDepths$Graph", 89, ⟨"StackDepths", "leastOf", "(I)I"⟩), ("StackDepths$Depths", 44, ⟨"StackDepths", "holds", "(II)Z"⟩), ("StackDepths$Depths", 89, ⟨"StackDepths", "greater", "(II)I"⟩), ("StackDepths$Depths", 92, ⟨"StackDepths", "plus", "(II)I"⟩), ("StackDepths$Interrupts", 29, ⟨"StackDepths", "plus", "(II)I"⟩), ("StackDepths$Interrupts", 33, ⟨"StackDepths", "greater", "(II)I"⟩)]
def pw_N (U : State) : Prop := ∀ q ∈ pw_nest, va_Nw (pw_nw q) U
theorem pw_N.warm {s U : State} (hW : s.WarmedH U.vm) (h : pw_N s) : pw_N U := fun q hq => va_Nw.warmM hW (h q hq)
theorem pw_N.same {u U : State} (e : u.vm = U.vm) (h : pw_N u) : pw_N U := fun q hq => va_Nw.same rfl e (h q hq)
abbrev pw_cl : List vw_C := vwCl
def pw_rm (d : Nat) : Room := { frames := d, cells := 0, slots := 0, locals := 40 * d }
def pw_E (L : pw_Lay) (M : pw_Md) (p : Program) (s : State) (m : MethodId) (args : Array Value) (meth : Method) (c : Code) : Prop :=
  p.tables.exec = Jvm.exec ∧ c.code = M.2.2.1 ∧ meth.sig.returnType = M.2.2.2.2 ∧ c.maxLocals = M.2.2.2.1 ∧ (∀ w ∈ pw_ws, w.before args s = true) ∧ s.vm.findClass M.2.1 = some m.cls ∧ va_K (pw_G L) pw_cl (pw_tys L) s ∧ pw_N s ∧ meth.locks = false
def pw_W (L : pw_Lay) (σ : pw_Mem) (H0 H : Heap) (locs : List Loc) : Prop := va_P (pw_G L) pw_cl (pw_wl L σ) H ∧ va_D (pw_A L) (pw_wl L σ) ∧ va_S (pw_A L) H0 H locs
def pw_Lc (L : pw_Lay) (nL : Nat) (ls : List (Option Value)) (lsM : Array Slot) : Prop := lsM.size = nL ∧ lv_wf lsM ∧ ∀ (i : Nat) (v : Value), ls[i]? = some (some v) → lsM[i]? = some (.val (pw_tr L v))
abbrev pw_K : Type := Option Value → pw_Mem → Prop
def pw_Q (L : pw_Lay) (K : pw_K) : Array Value → State → Outcome → State → Prop := fun _ st oc t => (∃ (r : Option Value) (σ' : pw_Mem), oc = .returned (r.map (pw_tr L)) ∧ K r σ' ∧ va_P (pw_G L) pw_cl (pw_wl L σ') t.heap) ∧ va_F (pw_A L) st t
def pw_P (L : pw_Lay) (as : List Value) (σ : pw_Mem) : Array Value → State → Prop := va_Pc (as.map (pw_tr L)) (fun U => va_P (pw_G L) pw_cl (pw_wl L σ) U.heap ∧ va_K (pw_G L) pw_cl (pw_tys L) U ∧ va_D (pw_A L) (pw_wl L σ) ∧ pw_N U)
def PW (L : pw_Lay) (d : Nat) (M : pw_Md) (K : pw_K) (pc : Nat) (ls : List (Option Value)) (st : List Value) (σ : pw_Mem) : Prop :=
  ∀ (p : Program) (e : Env) (s : State) (m : MethodId) (args : Array Value) (below : List Frame) (meth : Method) (c : Code) (H : Heap) (locs : List Loc) (lsM : Array Slot),
    pw_E L M p s m args meth c → pw_W L σ s.heap H locs → pw_Lc L M.2.2.2.1 ls lsM →
    W p (pw_l L) e (pw_rm d) s m args below meth c H locs 0 0 (MQ below (pw_Q L K) args s 0 0 (pw_A L)) (F0 m pc lsM (st.map (pw_tr L)))
def CT (L : pw_Lay) (d : Nat) (M : pw_Md) (as : List Value) (σ : pw_Mem) (K : pw_K) : Prop :=
  Met (pw_l L) M.1 (.code M.1 M.2.2.1 M.2.2.2.1 M.2.2.2.2 :: pw_ws) (pw_rm d) (pw_P L as σ) (pw_Q L K) 0 0 (pw_A L)
/-! the world's list -/
theorem pw_wl_at {L : pw_Lay} {σ : pw_Mem} {k : Nat} {sh : pw_Sh} (h : pw_shp[k]? = some sh) : (pw_wl L σ)[k]? = some (pw_ad L k, pw_ent L σ k sh) := by
  unfold pw_wl
  rw [List.getElem?_mapIdx, h]
  rfl
theorem pw_wl_len (L : pw_Lay) (σ : pw_Mem) : (pw_wl L σ).length = pw_shp.length := by unfold pw_wl; rw [List.length_mapIdx]
theorem pw_wl_of {L : pw_Lay} {σ : pw_Mem} {k : Nat} {q : Nat × va_E} (h : (pw_wl L σ)[k]? = some q) : ∃ sh, pw_shp[k]? = some sh ∧ q = (pw_ad L k, pw_ent L σ k sh) := by
  unfold pw_wl at h
  rw [List.getElem?_mapIdx] at h
  cases hs : pw_shp[k]? with
  | none => rw [hs] at h; cases h
  | some sh => rw [hs] at h; exact ⟨sh, rfl, (Option.some.inj h).symm⟩
theorem pw_D_any {L : pw_Lay} {σ τ : pw_Mem} (h : va_D (pw_A L) (pw_wl L σ)) : va_D (pw_A L) (pw_wl L τ) := by
  refine ⟨fun i j x y hi hj hxy => ?_, fun k q hq => ?_⟩
  · obtain ⟨si, h1, rfl⟩ := pw_wl_of hi
    obtain ⟨sj, h2, rfl⟩ := pw_wl_of hj
    exact h.1 i j _ _ (pw_wl_at h1) (pw_wl_at h2) hxy
  · obtain ⟨sh, h1, rfl⟩ := pw_wl_of hq
    exact h.2 k (pw_ad L k, pw_ent L σ k sh) (pw_wl_at h1)
theorem pw_ent_ne {L : pw_Lay} {σ : pw_Mem} {k a j : Nat} {v : Int32} {sh : pw_Sh} (h : a ≠ k) : pw_ent L (pw_up σ k j v) a sh = pw_ent L σ a sh := by
  have e : (pw_up σ k j v) a = σ a := by
    funext b
    simp [pw_up, h]
  have e2 : ∀ fs, pw_fld L (pw_up σ k j v) a fs = pw_fld L σ a fs := fun fs => by
    unfold pw_fld
    congr 1
    funext b f
    cases f with
    | none => show Value.int _ = Value.int _; rw [e]
    | some r => rfl
  match sh with
  | .inl (ci, fs) => show Sum.inr (ci, _) = Sum.inr (ci, _); rw [e2]
  | .inr (.inl n) => show Sum.inl (_, n, Sum.inl _) = Sum.inl (_, n, Sum.inl _); rw [e]
  | .inr (.inr (0, rs)) => rfl
  | .inr (.inr (n + 1, rs)) => rfl
theorem pw_set {L : pw_Lay} {σ : pw_Mem} {k j : Nat} {v : Int32} {sh : pw_Sh} (h : pw_shp[k]? = some sh) : (pw_wl L σ).set k (pw_ad L k, pw_ent L (pw_up σ k j v) k sh) = pw_wl L (pw_up σ k j v) := by
  apply List.ext_getElem?
  intro i
  by_cases hi : i = k
  · subst hi
    rw [pw_wl_at h, List.getElem?_set_self]
    exact (List.getElem?_eq_some_iff.mp (pw_wl_at (L := L) (σ := σ) h)).1
  · rw [List.getElem?_set_ne (fun q => hi q.symm)]
    unfold pw_wl
    rw [List.getElem?_mapIdx, List.getElem?_mapIdx]
    cases pw_shp[i]? with
    | none => rfl
    | some sh => show some (pw_ad L i, pw_ent L σ i sh) = some (pw_ad L i, pw_ent L (pw_up σ k j v) i sh); rw [pw_ent_ne hi]
theorem pw_upd (σ : pw_Mem) (k j : Nat) (v : Int32) : upd (σ k) j v = (pw_up σ k j v) k := by
  funext b
  simp [upd, pw_up]
theorem pw_fset {L : pw_Lay} {σ : pw_Mem} {k j : Nat} {v : Int32} {fs : List (Option Nat)} (h : fs[j]? = some none) : (pw_fld L σ k fs).set j (.int v) = pw_fld L (pw_up σ k j v) k fs := by
  apply List.ext_getElem?
  intro i
  unfold pw_fld
  by_cases hi : i = j
  · subst hi
    rw [List.getElem?_set_self (by rw [List.length_mapIdx]; exact (List.getElem?_eq_some_iff.mp h).1), List.getElem?_mapIdx, h]
    show some _ = some (Value.int _)
    simp [pw_up]
  · rw [List.getElem?_set_ne (fun q => hi q.symm), List.getElem?_mapIdx, List.getElem?_mapIdx]
    cases fs[i]? with
    | none => rfl
    | some f =>
      cases f with
      | none => show some (Value.int _) = some (Value.int _); simp [pw_up, hi]
      | some r => rfl
theorem pw_fld_at {L : pw_Lay} {σ : pw_Mem} {k j : Nat} {fs : List (Option Nat)} {f : Option Nat} (h : fs[j]? = some f) : (pw_fld L σ k fs)[j]? = some (pw_fv L σ k j f) := by
  unfold pw_fld
  rw [List.getElem?_mapIdx, h]
  rfl
theorem pw_setO {L : pw_Lay} {σ : pw_Mem} {k j ci : Nat} {v : Int32} {fs : List (Option Nat)} (hs : pw_shp[k]? = some (.inl (ci, fs))) (hf : fs[j]? = some none) : (pw_wl L σ).set k (pw_ad L k, Sum.inr (ci, (pw_fld L σ k fs).set j (.int v))) = pw_wl L (pw_up σ k j v) := by
  have h := pw_set (L := L) (σ := σ) (j := j) (v := v) hs
  have e : pw_ent L (pw_up σ k j v) k (.inl (ci, fs)) = Sum.inr (ci, (pw_fld L σ k fs).set j (.int v)) := by rw [pw_fset hf]; rfl
  rw [e] at h
  exact h
theorem pw_setA {L : pw_Lay} {σ : pw_Mem} {k j n : Nat} {v : Int32} (hs : pw_shp[k]? = some (.inr (.inl n))) : (pw_wl L σ).set k (pw_ad L k, Sum.inl (pw_cI L, n, Sum.inl (upd (σ k) j v))) = pw_wl L (pw_up σ k j v) := by
  have h := pw_set (L := L) (σ := σ) (j := j) (v := v) hs
  have e : pw_ent L (pw_up σ k j v) k (.inr (.inl n)) = Sum.inl (pw_cI L, n, Sum.inl (upd (σ k) j v)) := by rw [pw_upd]; rfl
  rw [e] at h
  exact h
/-- a field's link, read -/
def pw_FL (own : String) (idx ci j : Nat) : Prop := ∃ (C : String) (T : u_T) (N : Nat), pw_cl[ci]? = some (C, T, N) ∧ j < N ∧ Cond.fieldLink own idx (T j).1 (T j).2.1 (T j).2.2.1 ∈ pw_ws ∧ ∀ w ∈ u_ws C T N, w ∈ pw_ws
/-- a field's link, written -/
def pw_FP (own : String) (idx ci j : Nat) (ty : FieldType) : Prop := ∃ (C : String) (T : u_T) (N : Nat) (ty0 : Nat → FieldType), pw_cl[ci]? = some (C, T, N) ∧ j < N ∧ Cond.fieldLink own idx (T j).1 (T j).2.1 (T j).2.2.1 ∈ pw_ws ∧ (∀ w ∈ u_ws C T N, w ∈ pw_ws) ∧ (∀ k, k < N → parseFieldDescriptor (T k).2.2.1 = some (ty0 k)) ∧ (∀ a, a < N → ∀ b, b < N → a ≠ b → (T a).2.1 ≠ (T b).2.1) ∧ (T j).2.2.2 = false ∧ parseFieldDescriptor (T j).2.2.1 = some ty
section PWR
variable {L : pw_Lay} {d : Nat} {M : pw_Md} {K : pw_K} {pc : Nat} {ls : List (Option Value)} {st : List Value} {σ : pw_Mem}
theorem pw_getI {idx ci k j : Nat} {fs : List (Option Nat)} (hd : decode M.2.2.1 pc = .ok (.getfield idx, 3)) (hl : pw_FL M.2.1 idx ci j) (hs : pw_shp[k]? = some (.inl (ci, fs))) (hf : fs[j]? = some none) (kk : PW L d M K (pc + 3) ls (.int (σ k j) :: st) σ) : PW L d M K pc ls (.ref k :: st) σ := by
  intro p e s m args below meth c H locs lsM hE hW hL
  obtain ⟨C, T, N, h1, h2, h3, h4⟩ := hl
  exact va_get (v := .int (σ k j)) hE.1 hE.2.1 hE.2.2.2.2.1 h4 hE.2.2.2.2.2.1 hE.2.2.2.2.2.2.1 hW.1 k (pw_wl_at hs) h1 j h2 (hE.2.2.2.2.1 _ h3) (fun _ h => h) (pw_fld_at hf) hd (kk p e s m args below meth c H locs lsM hE hW hL)
theorem pw_getR {idx ci k j r : Nat} {fs : List (Option Nat)} (hd : decode M.2.2.1 pc = .ok (.getfield idx, 3)) (hl : pw_FL M.2.1 idx ci j) (hs : pw_shp[k]? = some (.inl (ci, fs))) (hf : fs[j]? = some (some r)) (kk : PW L d M K (pc + 3) ls (.ref r :: st) σ) : PW L d M K pc ls (.ref k :: st) σ := by
  intro p e s m args below meth c H locs lsM hE hW hL
  obtain ⟨C, T, N, h1, h2, h3, h4⟩ := hl
  exact va_get (v := .ref (pw_ad L r)) hE.1 hE.2.1 hE.2.2.2.2.1 h4 hE.2.2.2.2.2.1 hE.2.2.2.2.2.2.1 hW.1 k (pw_wl_at hs) h1 j h2 (hE.2.2.2.2.1 _ h3) (fun _ h => h) (pw_fld_at hf) hd (kk p e s m args below meth c H locs lsM hE hW hL)
theorem pw_put {idx ci k j : Nat} {fs : List (Option Nat)} {ty : FieldType} {v : Int32} (hd : decode M.2.2.1 pc = .ok (.putfield idx, 3)) (hl : pw_FP M.2.1 idx ci j ty) (hs : pw_shp[k]? = some (.inl (ci, fs))) (hf : fs[j]? = some none) (hn : narrow ty (.int v) = .int v) (hft : fits ty (.int v) = true) (kk : PW L d M K (pc + 3) ls st (pw_up σ k j v)) : PW L d M K pc ls (.int v :: .ref k :: st) σ := by
  intro p e s m args below meth c H locs lsM hE hW hL
  obtain ⟨C, T, N, ty0, h1, h2, h3, h4, h5, h6, h7, h8⟩ := hl
  refine va_put (v := .int v) (ty := ty) hE.1 hE.2.1 hE.2.2.2.2.1 h4 ty0 h5 h6 hE.2.2.2.2.2.1 hE.2.2.2.2.2.2.1 hW.1 hW.2.1 hW.2.2 k (pw_wl_at hs) h1 j h2 (hE.2.2.2.2.1 _ h3) (fun _ h => h) h7 h8 hn hft (by unfold pw_fld; rw [List.length_mapIdx]; exact (List.getElem?_eq_some_iff.mp hf).1) hd (fun H1 locs1 hP hD hS => ?_)
  have e9 := pw_setO (L := L) (σ := σ) (v := v) hs hf
  rw [e9] at hP hD
  exact kk p e s m args below meth c H1 locs1 lsM hE ⟨hP, hD, hS⟩ hL
theorem pw_iald {k n : Nat} {i : Int32} (hd : decode M.2.2.1 pc = .ok (.iaload, 1)) (hs : pw_shp[k]? = some (.inr (.inl n))) (hi : vp_in i n) (kk : PW L d M K (pc + 1) ls (.int (σ k i.toNatClampNeg) :: st) σ) : PW L d M K pc ls (.int i :: .ref k :: st) σ := by
  intro p e s m args below meth c H locs lsM hE hW hL
  exact va_iald hE.1 hE.2.1 hE.2.2.2.2.2.2.1 hW.1 k 0 (pw_wl_at hs) rfl hi hd (kk p e s m args below meth c H locs lsM hE hW hL)
theorem pw_iast {k n : Nat} {i x : Int32} (hd : decode M.2.2.1 pc = .ok (.iastore, 1)) (hs : pw_shp[k]? = some (.inr (.inl n))) (hi : vp_in i n) (kk : PW L d M K (pc + 1) ls st (pw_up σ k i.toNatClampNeg x)) : PW L d M K pc ls (.int x :: .int i :: .ref k :: st) σ := by
  intro p e s m args below meth c H locs lsM hE hW hL
  refine va_iast hE.1 hE.2.1 hE.2.2.2.2.2.2.1 hW.1 hW.2.1 hW.2.2 k 0 (pw_wl_at hs) rfl hi hd (fun H1 locs1 hP hD hS => ?_)
  have e9 := pw_setA (L := L) (σ := σ) (j := i.toNatClampNeg) (v := x) hs
  rw [e9] at hP hD
  exact kk p e s m args below meth c H1 locs1 lsM hE ⟨hP, hD, hS⟩ hL
theorem pw_aaldS {k r : Nat} {i : Int32} {rs : List Nat} (hd : decode M.2.2.1 pc = .ok (.aaload, 1)) (hs : pw_shp[k]? = some (.inr (.inr (1, rs)))) (hi : vp_in i rs.length) (hr : rs[i.toNatClampNeg]? = some r) (kk : PW L d M K (pc + 1) ls (.ref r :: st) σ) : PW L d M K pc ls (.int i :: .ref k :: st) σ := by
  intro p e s m args below meth c H locs lsM hE hW hL
  refine va_aldq hE.1 hE.2.1 hE.2.2.2.2.2.2.1 hW.1 k 2 (pw_wl_at hs) rfl hi hd ?_
  show W p (pw_l L) e (pw_rm d) s m args below meth c H locs 0 0 _ (F0 m (pc + 1) lsM (va_rf (rs[i.toNatClampNeg]?.map (pw_ad L)) :: st.map (pw_tr L)))
  rw [hr]
  exact kk p e s m args below meth c H locs lsM hE hW hL
theorem pw_aaldB {k r : Nat} {i : Int32} {rs : List Nat} (hd : decode M.2.2.1 pc = .ok (.aaload, 1)) (hs : pw_shp[k]? = some (.inr (.inr (0, rs)))) (hi : vp_in i rs.length) (hr : rs[i.toNatClampNeg]? = some r) (kk : PW L d M K (pc + 1) ls (.ref r :: st) σ) : PW L d M K pc ls (.int i :: .ref k :: st) σ := by
  intro p e s m args below meth c H locs lsM hE hW hL
  have hK := hE.2.2.2.2.2.2.1
  have ha : (pw_wl L σ)[k]? = some (pw_ad L k, Sum.inl (pw_cB L, rs.length, .inr (.inr (.inr (.inr (fun i => rs[i]?.map (pw_ad L))))))) := pw_wl_at hs
  have hlt : i.toNatClampNeg < rs.length := Nat.not_le.mp fun q => hi (Or.inr q)
  refine W.aald (v := va_rf (rs[i.toNatClampNeg]?.map (pw_ad L))) (ty := .array .int) hE.1 hE.2.1 (hW.1 k _ ha) ((hK.2 1 _ rfl).1 rs.length (fun j => va_rf (rs[j]?.map (pw_ad L)))) rfl (fun q => by cases q) (by show ¬ (i < 0 ∨ (arrV _ _ _).slots.size ≤ _); rw [arrV_size]; exact hi) (by show (arrV _ _ _).slots[_]? = _; rw [arrV_read _ _ hlt]) rfl rfl hd ?_
  rw [hr]
  exact kk p e s m args below meth c H locs lsM hE hW hL
end PWR
end
section
theorem pw_tr_cat (L : pw_Lay) (v : Value) : (pw_tr L v).category = v.category := by cases v <;> rfl
theorem pw_cats (L : pw_Lay) (st : List Value) : ((st.map (pw_tr L)).map fun v => v.category).sum = (st.map fun v => v.category).sum := by
  induction st with
  | nil => rfl
  | cons v vs ih => simp only [List.map_cons, List.sum_cons, pw_tr_cat, ih]
/-- the listed locals, as the kit has them -/
def pw_lv (L : pw_Lay) (ls : List (Option Value)) : List (Nat × Value) := (List.range ls.length).filterMap (fun i => match ls[i]? with
  | some (some v) => some (i, pw_tr L v)
  | _ => none)
theorem pw_lv_in {L : pw_Lay} {ls : List (Option Value)} {i : Nat} {v : Value} (h : ls[i]? = some (some v)) : (i, pw_tr L v) ∈ pw_lv L ls := by
  refine List.mem_filterMap.mpr ⟨i, List.mem_range.mpr (List.getElem?_eq_some_iff.mp h).1, ?_⟩
  rw [h]
theorem pw_lv_of {L : pw_Lay} {ls : List (Option Value)} {q : Nat × Value} (h : q ∈ pw_lv L ls) : ∃ v, ls[q.1]? = some (some v) ∧ q.2 = pw_tr L v := by
  obtain ⟨i, -, hi⟩ := List.mem_filterMap.mp h
  cases e : ls[i]? with
  | none => rw [e] at hi; cases hi
  | some o =>
    cases o with
    | none => rw [e] at hi; cases hi
    | some v =>
      rw [e] at hi
      cases hi
      exact ⟨v, e, rfl⟩
theorem pw_Lc.has {L : pw_Lay} {nL : Nat} {ls : List (Option Value)} {lsM : Array Slot} (h : pw_Lc L nL ls lsM) : lv_has lsM nL (pw_lv L ls) := ⟨h.1, h.2.1, fun q hq => by
  obtain ⟨v, h1, h2⟩ := pw_lv_of hq
  rw [h2]
  exact h.2.2 q.1 v h1⟩
/-- a long that stood below place i is gone -/
def pw_is2 : Option (Option Value) → Bool
  | some (some v) => v.category == 2
  | _ => false
def pw_kill (ls : List (Option Value)) : Nat → List (Option Value)
  | 0 => ls
  | i + 1 => cond (pw_is2 ls[i]?) (ls.set i none) ls
def pw_setL (ls : List (Option Value)) (i : Nat) (v : Value) : List (Option Value) := (pw_kill ls i).set i (some v)
def pw_setL2 (ls : List (Option Value)) (i : Nat) (v : Value) : List (Option Value) := ((pw_kill ls i).set i (some v)).set (i + 1) none
theorem pw_kill_of {ls : List (Option Value)} {i j : Nat} {w : Value} (h : (pw_kill ls i)[j]? = some (some w)) : ls[j]? = some (some w) ∧ ¬ (j + 1 = i ∧ w.category = 2) := by
  cases i with
  | zero => exact ⟨h, fun q => by omega⟩
  | succ i =>
    have e : pw_kill ls (i + 1) = cond (pw_is2 ls[i]?) (ls.set i none) ls := rfl
    rw [e] at h
    cases hc : pw_is2 ls[i]? with
    | true =>
      rw [hc] at h
      have h : (ls.set i none)[j]? = some (some w) := h
      by_cases hj : j = i
      · subst hj
        have hl := (List.getElem?_eq_some_iff.mp h).1
        rw [List.length_set] at hl
        rw [List.getElem?_set_self hl] at h
        cases h
      · rw [List.getElem?_set_ne (fun q => hj q.symm)] at h
        exact ⟨h, fun q => hj (by omega)⟩
    | false =>
      rw [hc] at h
      have h8 : ls[j]? = some (some w) := h
      refine ⟨h8, fun q => ?_⟩
      have e2 : j = i := by omega
      subst e2
      rw [h8] at hc
      have hc : (w.category == 2) = false := hc
      rw [q.2] at hc
      cases hc
theorem pw_Lc.set {L : pw_Lay} {nL i : Nat} {ls : List (Option Value)} {lsM : Array Slot} {v : Value} (h : lv_has lsM nL ((i, pw_tr L v) :: (pw_lv L ls).filter (fun q => !(q.1 == i) && !(q.1 + 1 == i && q.2.category == 2)))) : pw_Lc L nL (pw_setL ls i v) lsM := by
  refine ⟨h.1, h.2.1, fun j w hj => ?_⟩
  unfold pw_setL at hj
  by_cases e : j = i
  · subst e
    have hl : j < ((pw_kill ls j).set j (some v)).length := (List.getElem?_eq_some_iff.mp hj).1
    rw [List.length_set] at hl
    rw [List.getElem?_set_self hl] at hj
    cases hj
    exact h.2.2 (j, pw_tr L v) List.mem_cons_self
  · rw [List.getElem?_set_ne (fun q => e q.symm)] at hj
    obtain ⟨h1, h2⟩ := pw_kill_of hj
    refine h.2.2 (j, pw_tr L w) (List.mem_cons_of_mem _ (List.mem_filter.mpr ⟨pw_lv_in h1, ?_⟩))
    simp only [pw_tr_cat]
    by_cases h3 : j + 1 = i
    · have h4 : ¬ w.category = 2 := fun q => h2 ⟨h3, q⟩
      simp [e, h4]
    · simp [e, h3]
theorem pw_Lc.set2 {L : pw_Lay} {nL i : Nat} {ls : List (Option Value)} {lsM : Array Slot} {v : Value} (h : lv_has lsM nL ((i, pw_tr L v) :: (pw_lv L ls).filter (fun q => !(q.1 == i) && (!(q.1 == i + 1) && !(q.1 + 1 == i && q.2.category == 2))))) : pw_Lc L nL (pw_setL2 ls i v) lsM := by
  refine ⟨h.1, h.2.1, fun j w hj => ?_⟩
  unfold pw_setL2 at hj
  have e0 : ¬ j = i + 1 := fun q => by
    subst q
    have hl := (List.getElem?_eq_some_iff.mp hj).1
    rw [List.length_set] at hl
    rw [List.getElem?_set_self hl] at hj
    cases hj
  rw [List.getElem?_set_ne (fun q => e0 q.symm)] at hj
  by_cases e : j = i
  · subst e
    have hl : j < ((pw_kill ls j).set j (some v)).length := (List.getElem?_eq_some_iff.mp hj).1
    rw [List.length_set] at hl
    rw [List.getElem?_set_self hl] at hj
    cases hj
    exact h.2.2 (j, pw_tr L v) List.mem_cons_self
  · rw [List.getElem?_set_ne (fun q => e q.symm)] at hj
    obtain ⟨h1, h2⟩ := pw_kill_of hj
    refine h.2.2 (j, pw_tr L w) (List.mem_cons_of_mem _ (List.mem_filter.mpr ⟨pw_lv_in h1, ?_⟩))
    simp only [pw_tr_cat]
    by_cases h3 : j + 1 = i
    · have h4 : ¬ w.category = 2 := fun q => h2 ⟨h3, q⟩
      simp [e, e0, h4]
    · simp [e, e0, h3]
/-- the locals at the entry -/
def pw_args : List Value → List (Option Value)
  | [] => []
  | v :: vs => if v.category = 2 then some v :: none :: pw_args vs else some v :: pw_args vs
theorem pw_args_in (L : pw_Lay) (as : List Value) : ∀ (o i : Nat) (v : Value), (pw_args as)[i]? = some (some v) → (o + i, pw_tr L v) ∈ lv_args o (as.map (pw_tr L)) := by
  induction as with
  | nil => intro o i v h; simp [pw_args] at h
  | cons a as ih =>
    intro o i v h
    unfold pw_args at h
    by_cases hc : a.category = 2
    · rw [if_pos hc] at h
      simp only [List.map_cons, lv_args, pw_tr_cat, hc, if_true]
      match i, h with
      | 0, h => cases h; exact List.mem_cons_self
      | 1, h => cases h
      | i + 2, h =>
        have h2 := ih (o + 2) i v h
        rw [show o + 2 + i = o + (i + 2) by omega] at h2
        exact List.mem_cons_of_mem _ h2
    · rw [if_neg hc] at h
      simp only [List.map_cons, lv_args, pw_tr_cat, hc, if_false]
      match i, h with
      | 0, h => cases h; exact List.mem_cons_self
      | i + 1, h =>
        have h2 := ih (o + 1) i v h
        rw [show o + 1 + i = o + (i + 1) by omega] at h2
        exact List.mem_cons_of_mem _ h2
section PWS
variable {L : pw_Lay} {d : Nat} {M : pw_Md} {K : pw_K} {pc : Nat} {ls : List (Option Value)} {st : List Value} {σ : pw_Mem}
theorem pw_enter {as : List Value} (hy : plainName M.1.cls = true) (ho : M.1.cls = M.2.1) (hle : (lg_sl (as.map (pw_tr L))).length ≤ M.2.2.2.1) {ls : List (Option Value)} (hls : pw_args as ++ List.replicate (M.2.2.2.1 - (pw_args as).length) none = ls) (h : PW L d M K 0 ls [] σ) : CT L d M as σ K := by
  refine Met.ofW (cc := M.2.2.1) (maxL := M.2.2.2.1) (ret := M.2.2.2.2) hy rfl ?_
  intro p e s m args below meth c s₁ B hml hv
  obtain ⟨rfl, hP, hK, hD, hN⟩ := hv
  have hts := atoms_spec (ws := .code M.1 M.2.2.1 M.2.2.2.1 M.2.2.2.2 :: pw_ws) B.pre
  have hown : s.vm.findClass M.1.cls = some m.cls := findClass_of_methodNamed B.named
  have hl := lv_entry (as.map (pw_tr L)) (n := M.2.2.2.1) hle
  rw [lg_entry_eq]
  generalize (lg_sl (as.map (pw_tr L)) ++ List.replicate (M.2.2.2.1 - (lg_sl (as.map (pw_tr L))).length) Slot.unset).toArray = lsM at hl ⊢
  refine h p e s m _ below meth c s.heap [] lsM ⟨B.exec, B.bytes, B.returns, hml, fun w hw => hts w (List.mem_cons_of_mem _ hw), by rw [← ho]; exact hown, hK, hN, B.notSynchronized⟩ ⟨hP, hD, va_S.rf⟩ ⟨hl.1, hl.2.1, fun i v hi => ?_⟩
  rw [← hls] at hi
  have hlt : i < (pw_args as).length := by
    refine Nat.lt_of_not_le fun q => ?_
    rw [List.getElem?_append_right q] at hi
    have := List.eq_of_mem_replicate (List.mem_of_getElem? hi)
    cases this
  rw [List.getElem?_append_left hlt] at hi
  have := hl.2.2 _ (pw_args_in L as 0 i v hi)
  rw [Nat.zero_add] at this
  exact this

theorem pw_iconst {n : Int} {v : Int32} (hd : decode M.2.2.1 pc = .ok (.iconst n, 1)) (hv : Int32.ofInt n = v) (kk : PW L d M K (pc + 1) ls (.int v :: st) σ) : PW L d M K pc ls st σ := by
  intro p e s m args below meth c H locs lsM hE hW hL
  exact lv_iconst hE.1 hE.2.1 hd hv (kk p e s m args below meth c H locs lsM hE hW hL)
theorem pw_bipush {n : Int} {v : Int32} (hd : decode M.2.2.1 pc = .ok (.bipush n, 2)) (hv : (Int8.ofInt n).toInt32 = v) (kk : PW L d M K (pc + 2) ls (.int v :: st) σ) : PW L d M K pc ls st σ := by
  intro p e s m args below meth c H locs lsM hE hW hL
  exact lv_bipush hE.1 hE.2.1 hd hv (kk p e s m args below meth c H locs lsM hE hW hL)
theorem pw_sipush {n : Int} {v : Int32} (hd : decode M.2.2.1 pc = .ok (.sipush n, 3)) (hv : (Int16.ofInt n).toInt32 = v) (kk : PW L d M K (pc + 3) ls (.int v :: st) σ) : PW L d M K pc ls st σ := by
  intro p e s m args below meth c H locs lsM hE hW hL
  exact lv_sipush hE.1 hE.2.1 hd hv (kk p e s m args below meth c H locs lsM hE hW hL)
theorem pw_lconst {n : Fin 2} {v : Int64} (hd : decode M.2.2.1 pc = .ok (.lconst n, 1)) (hv : Int64.ofNat (n : Nat) = v) (kk : PW L d M K (pc + 1) ls (.long v :: st) σ) : PW L d M K pc ls st σ := by
  intro p e s m args below meth c H locs lsM hE hW hL
  exact lv_lconst hE.1 hE.2.1 hd hv (kk p e s m args below meth c H locs lsM hE hW hL)
theorem pw_ldc {idx : Nat} {v : Int32} (hd : decode M.2.2.1 pc = .ok (.ldc idx, 2)) (hw : Jvm.Cond.constant M.2.1 idx v ∈ pw_ws) (kk : PW L d M K (pc + 2) ls (.int v :: st) σ) : PW L d M K pc ls st σ := by
  intro p e s m args below meth c H locs lsM hE hW hL
  exact lv_ldc hE.1 hE.2.1 hE.2.2.2.2.2.1 (hE.2.2.2.2.1 _ hw) hd (kk p e s m args below meth c H locs lsM hE hW hL)
theorem pw_ldcw {idx : Nat} {v : Int32} (hd : decode M.2.2.1 pc = .ok (.ldc_w idx, 3)) (hw : Jvm.Cond.constant M.2.1 idx v ∈ pw_ws) (kk : PW L d M K (pc + 3) ls (.int v :: st) σ) : PW L d M K pc ls st σ := by
  intro p e s m args below meth c H locs lsM hE hW hL
  exact lv_ldcw hE.1 hE.2.1 hE.2.2.2.2.2.1 (hE.2.2.2.2.1 _ hw) hd (kk p e s m args below meth c H locs lsM hE hW hL)
theorem pw_ldc2 {idx : Nat} {v : Int64} (hd : decode M.2.2.1 pc = .ok (.ldc2_w idx, 3)) (hw : Jvm.Cond.constantLong M.2.1 idx v ∈ pw_ws) (kk : PW L d M K (pc + 3) ls (.long v :: st) σ) : PW L d M K pc ls st σ := by
  intro p e s m args below meth c H locs lsM hE hW hL
  exact lv_ldc2 hE.1 hE.2.1 hE.2.2.2.2.2.1 (hE.2.2.2.2.1 _ hw) hd (kk p e s m args below meth c H locs lsM hE hW hL)
theorem pw_iload_n {k : Fin 4} {i : Nat} {x : Int32} (hd : decode M.2.2.1 pc = .ok (.iload_n k, 1)) (hi : (k : Nat) = i) (hl : ls[i]? = some (some (.int x))) (kk : PW L d M K (pc + 1) ls (.int x :: st) σ) : PW L d M K pc ls st σ := by
  intro p e s m args below meth c H locs lsM hE hW hL
  exact lv_iload_n hE.1 hE.2.1 hd hi (hL.2.2 _ _ hl) (kk p e s m args below meth c H locs lsM hE hW hL)
theorem pw_iload {i : Nat} {x : Int32} (hd : decode M.2.2.1 pc = .ok (.iload i, 2)) (hl : ls[i]? = some (some (.int x))) (kk : PW L d M K (pc + 2) ls (.int x :: st) σ) : PW L d M K pc ls st σ := by
  intro p e s m args below meth c H locs lsM hE hW hL
  exact lv_iload hE.1 hE.2.1 hd (hL.2.2 _ _ hl) (kk p e s m args below meth c H locs lsM hE hW hL)
theorem pw_lload_n {k : Fin 4} {i : Nat} {x : Int64} (hd : decode M.2.2.1 pc = .ok (.lload_n k, 1)) (hi : (k : Nat) = i) (hl : ls[i]? = some (some (.long x))) (kk : PW L d M K (pc + 1) ls (.long x :: st) σ) : PW L d M K pc ls st σ := by
  intro p e s m args below meth c H locs lsM hE hW hL
  exact lv_lload_n hE.1 hE.2.1 hd hi (hL.2.2 _ _ hl) (kk p e s m args below meth c H locs lsM hE hW hL)
theorem pw_lload {i : Nat} {x : Int64} (hd : decode M.2.2.1 pc = .ok (.lload i, 2)) (hl : ls[i]? = some (some (.long x))) (kk : PW L d M K (pc + 2) ls (.long x :: st) σ) : PW L d M K pc ls st σ := by
  intro p e s m args below meth c H locs lsM hE hW hL
  exact lv_lload hE.1 hE.2.1 hd (hL.2.2 _ _ hl) (kk p e s m args below meth c H locs lsM hE hW hL)
theorem pw_aload_n {k : Fin 4} {i : Nat} {x : Nat} (hd : decode M.2.2.1 pc = .ok (.aload_n k, 1)) (hi : (k : Nat) = i) (hl : ls[i]? = some (some (.ref x))) (kk : PW L d M K (pc + 1) ls (.ref x :: st) σ) : PW L d M K pc ls st σ := by
  intro p e s m args below meth c H locs lsM hE hW hL
  exact lv_aload_n hE.1 hE.2.1 hd hi (hL.2.2 _ _ hl) (kk p e s m args below meth c H locs lsM hE hW hL)
theorem pw_aload {i : Nat} {x : Nat} (hd : decode M.2.2.1 pc = .ok (.aload i, 2)) (hl : ls[i]? = some (some (.ref x))) (kk : PW L d M K (pc + 2) ls (.ref x :: st) σ) : PW L d M K pc ls st σ := by
  intro p e s m args below meth c H locs lsM hE hW hL
  exact lv_aload hE.1 hE.2.1 hd (hL.2.2 _ _ hl) (kk p e s m args below meth c H locs lsM hE hW hL)
theorem pw_istore_n {k : Fin 4} {i : Nat} {x : Int32} {ls' : List (Option Value)} (hd : decode M.2.2.1 pc = .ok (.istore_n k, 1)) (hi : (k : Nat) = i) (hn : i < M.2.2.2.1) (hl : pw_setL ls i (.int x) = ls') (kk : PW L d M K (pc + 1) ls' st σ) : PW L d M K pc ls (.int x :: st) σ := by
  intro p e s m args below meth c H locs lsM hE hW hL
  subst hl
  exact lv_istore_n hE.1 hE.2.1 hd hi hL.has hn rfl (fun ls9 h9 => kk p e s m args below meth c H locs ls9 hE hW (pw_Lc.set h9))
theorem pw_istore {i : Nat} {x : Int32} {ls' : List (Option Value)} (hd : decode M.2.2.1 pc = .ok (.istore i, 2)) (hn : i < M.2.2.2.1) (hl : pw_setL ls i (.int x) = ls') (kk : PW L d M K (pc + 2) ls' st σ) : PW L d M K pc ls (.int x :: st) σ := by
  intro p e s m args below meth c H locs lsM hE hW hL
  subst hl
  exact lv_istore hE.1 hE.2.1 hd hL.has hn rfl (fun ls9 h9 => kk p e s m args below meth c H locs ls9 hE hW (pw_Lc.set h9))
theorem pw_astore_n {k : Fin 4} {i : Nat} {x : Nat} {ls' : List (Option Value)} (hd : decode M.2.2.1 pc = .ok (.astore_n k, 1)) (hi : (k : Nat) = i) (hn : i < M.2.2.2.1) (hl : pw_setL ls i (.ref x) = ls') (kk : PW L d M K (pc + 1) ls' st σ) : PW L d M K pc ls (.ref x :: st) σ := by
  intro p e s m args below meth c H locs lsM hE hW hL
  subst hl
  exact lv_astore_n hE.1 hE.2.1 hd hi hL.has hn rfl (fun ls9 h9 => kk p e s m args below meth c H locs ls9 hE hW (pw_Lc.set h9))
theorem pw_astore {i : Nat} {x : Nat} {ls' : List (Option Value)} (hd : decode M.2.2.1 pc = .ok (.astore i, 2)) (hn : i < M.2.2.2.1) (hl : pw_setL ls i (.ref x) = ls') (kk : PW L d M K (pc + 2) ls' st σ) : PW L d M K pc ls (.ref x :: st) σ := by
  intro p e s m args below meth c H locs lsM hE hW hL
  subst hl
  exact lv_astore hE.1 hE.2.1 hd hL.has hn rfl (fun ls9 h9 => kk p e s m args below meth c H locs ls9 hE hW (pw_Lc.set h9))
theorem pw_lstore {i : Nat} {x : Int64} {ls' : List (Option Value)} (hd : decode M.2.2.1 pc = .ok (.lstore i, 2)) (hn : i + 1 < M.2.2.2.1) (hl : pw_setL2 ls i (.long x) = ls') (kk : PW L d M K (pc + 2) ls' st σ) : PW L d M K pc ls (.long x :: st) σ := by
  intro p e s m args below meth c H locs lsM hE hW hL
  subst hl
  exact lv_lstore hE.1 hE.2.1 hd hL.has hn rfl (fun ls9 h9 => kk p e s m args below meth c H locs ls9 hE hW (pw_Lc.set2 h9))
theorem pw_iinc {i : Nat} {n : Int} {x v : Int32} {ls' : List (Option Value)} (hd : decode M.2.2.1 pc = .ok (.iinc i n, 3)) (hx : ls[i]? = some (some (.int x))) (hv : x + Int32.ofInt n = v) (hn : i < M.2.2.2.1) (hl : pw_setL ls i (.int v) = ls') (kk : PW L d M K (pc + 3) ls' st σ) : PW L d M K pc ls st σ := by
  intro p e s m args below meth c H locs lsM hE hW hL
  subst hl
  obtain ⟨k9, hk9⟩ := List.getElem?_of_mem (pw_lv_in (L := L) hx)
  exact lv_iinc hE.1 hE.2.1 hd hL.has hk9 hv hn rfl (fun ls9 h9 => kk p e s m args below meth c H locs ls9 hE hW (pw_Lc.set h9))
theorem pw_iadd {x y : Int32} (hd : decode M.2.2.1 pc = .ok (.iadd, 1)) (kk : PW L d M K (pc + 1) ls (.int (x + y) :: st) σ) : PW L d M K pc ls (.int y :: .int x :: st) σ := by
  intro p e s m args below meth c H locs lsM hE hW hL
  exact lv_iadd hE.1 hE.2.1 hd (kk p e s m args below meth c H locs lsM hE hW hL)
theorem pw_isub {x y : Int32} (hd : decode M.2.2.1 pc = .ok (.isub, 1)) (kk : PW L d M K (pc + 1) ls (.int (x - y) :: st) σ) : PW L d M K pc ls (.int y :: .int x :: st) σ := by
  intro p e s m args below meth c H locs lsM hE hW hL
  exact lv_isub hE.1 hE.2.1 hd (kk p e s m args below meth c H locs lsM hE hW hL)
theorem pw_imul {x y : Int32} (hd : decode M.2.2.1 pc = .ok (.imul, 1)) (kk : PW L d M K (pc + 1) ls (.int (x * y) :: st) σ) : PW L d M K pc ls (.int y :: .int x :: st) σ := by
  intro p e s m args below meth c H locs lsM hE hW hL
  exact lv_imul hE.1 hE.2.1 hd (kk p e s m args below meth c H locs lsM hE hW hL)
theorem pw_iand {x y : Int32} (hd : decode M.2.2.1 pc = .ok (.iand, 1)) (kk : PW L d M K (pc + 1) ls (.int (x &&& y) :: st) σ) : PW L d M K pc ls (.int y :: .int x :: st) σ := by
  intro p e s m args below meth c H locs lsM hE hW hL
  exact lv_iand hE.1 hE.2.1 hd (kk p e s m args below meth c H locs lsM hE hW hL)
theorem pw_ior {x y : Int32} (hd : decode M.2.2.1 pc = .ok (.ior, 1)) (kk : PW L d M K (pc + 1) ls (.int (x ||| y) :: st) σ) : PW L d M K pc ls (.int y :: .int x :: st) σ := by
  intro p e s m args below meth c H locs lsM hE hW hL
  exact lv_ior hE.1 hE.2.1 hd (kk p e s m args below meth c H locs lsM hE hW hL)
theorem pw_ixor {x y : Int32} (hd : decode M.2.2.1 pc = .ok (.ixor, 1)) (kk : PW L d M K (pc + 1) ls (.int (x ^^^ y) :: st) σ) : PW L d M K pc ls (.int y :: .int x :: st) σ := by
  intro p e s m args below meth c H locs lsM hE hW hL
  exact lv_ixor hE.1 hE.2.1 hd (kk p e s m args below meth c H locs lsM hE hW hL)
theorem pw_ishl {x y : Int32} (hd : decode M.2.2.1 pc = .ok (.ishl, 1)) (kk : PW L d M K (pc + 1) ls (.int (x <<< (y &&& 31)) :: st) σ) : PW L d M K pc ls (.int y :: .int x :: st) σ := by
  intro p e s m args below meth c H locs lsM hE hW hL
  exact lv_ishl hE.1 hE.2.1 hd (kk p e s m args below meth c H locs lsM hE hW hL)
theorem pw_ishr {x y : Int32} (hd : decode M.2.2.1 pc = .ok (.ishr, 1)) (kk : PW L d M K (pc + 1) ls (.int (x >>> (y &&& 31)) :: st) σ) : PW L d M K pc ls (.int y :: .int x :: st) σ := by
  intro p e s m args below meth c H locs lsM hE hW hL
  exact lv_ishr hE.1 hE.2.1 hd (kk p e s m args below meth c H locs lsM hE hW hL)
theorem pw_irem {x y : Int32} (hd : decode M.2.2.1 pc = .ok (.irem, 1)) (hne : ¬ y = 0) (kk : PW L d M K (pc + 1) ls (.int (x - x / y * y) :: st) σ) : PW L d M K pc ls (.int y :: .int x :: st) σ := by
  intro p e s m args below meth c H locs lsM hE hW hL
  exact lv_irem hE.1 hE.2.1 hd hne (kk p e s m args below meth c H locs lsM hE hW hL)
theorem pw_iushr {x y v : Int32} (hd : decode M.2.2.1 pc = .ok (.iushr, 1)) (hv : (x.toUInt32 >>> (y.toUInt32 &&& Int32.toUInt32 31)).toInt32 = v) (kk : PW L d M K (pc + 1) ls (.int v :: st) σ) : PW L d M K pc ls (.int y :: .int x :: st) σ := by
  intro p e s m args below meth c H locs lsM hE hW hL
  exact lv_iushr hE.1 hE.2.1 hd hv (kk p e s m args below meth c H locs lsM hE hW hL)
theorem pw_i2l {x : Int32} (hd : decode M.2.2.1 pc = .ok (.i2l, 1)) (kk : PW L d M K (pc + 1) ls (.long x.toInt64 :: st) σ) : PW L d M K pc ls (.int x :: st) σ := by
  intro p e s m args below meth c H locs lsM hE hW hL
  exact lv_i2l hE.1 hE.2.1 hd rfl (kk p e s m args below meth c H locs lsM hE hW hL)
theorem pw_l2i {x : Int64} (hd : decode M.2.2.1 pc = .ok (.l2i, 1)) (kk : PW L d M K (pc + 1) ls (.int x.toInt32 :: st) σ) : PW L d M K pc ls (.long x :: st) σ := by
  intro p e s m args below meth c H locs lsM hE hW hL
  exact lv_l2i hE.1 hE.2.1 hd rfl (kk p e s m args below meth c H locs lsM hE hW hL)
theorem pw_i2b {x : Int32} (hd : decode M.2.2.1 pc = .ok (.i2b, 1)) (kk : PW L d M K (pc + 1) ls (.int x.toInt8.toInt32 :: st) σ) : PW L d M K pc ls (.int x :: st) σ := by
  intro p e s m args below meth c H locs lsM hE hW hL
  exact lv_i2b hE.1 hE.2.1 hd rfl (kk p e s m args below meth c H locs lsM hE hW hL)
theorem pw_i2s {x : Int32} (hd : decode M.2.2.1 pc = .ok (.i2s, 1)) (kk : PW L d M K (pc + 1) ls (.int x.toInt16.toInt32 :: st) σ) : PW L d M K pc ls (.int x :: st) σ := by
  intro p e s m args below meth c H locs lsM hE hW hL
  exact lv_i2s hE.1 hE.2.1 hd rfl (kk p e s m args below meth c H locs lsM hE hW hL)
theorem pw_ladd {x y : Int64} (hd : decode M.2.2.1 pc = .ok (.ladd, 1)) (kk : PW L d M K (pc + 1) ls (.long (x + y) :: st) σ) : PW L d M K pc ls (.long y :: .long x :: st) σ := by
  intro p e s m args below meth c H locs lsM hE hW hL
  exact lv_ladd hE.1 hE.2.1 hd (kk p e s m args below meth c H locs lsM hE hW hL)
theorem pw_lcmp {x y : Int64} (hd : decode M.2.2.1 pc = .ok (.lcmp, 1)) (kk : PW L d M K (pc + 1) ls (.int (lg_cmp x y) :: st) σ) : PW L d M K pc ls (.long y :: .long x :: st) σ := by
  intro p e s m args below meth c H locs lsM hE hW hL
  exact W.lcmp hE.1 hE.2.1 hd (kk p e s m args below meth c H locs lsM hE hW hL)
theorem pw_dup {v : Value} (hd : decode M.2.2.1 pc = .ok (.dup, 1)) (hc : v.category = 1) (kk : PW L d M K (pc + 1) ls (v :: v :: st) σ) : PW L d M K pc ls (v :: st) σ := by
  intro p e s m args below meth c H locs lsM hE hW hL
  exact lv_dup hE.1 hE.2.1 hd ((pw_tr_cat L v).trans hc) (kk p e s m args below meth c H locs lsM hE hW hL)
theorem pw_pop {v : Value} (hd : decode M.2.2.1 pc = .ok (.pop, 1)) (hc : v.category = 1) (kk : PW L d M K (pc + 1) ls st σ) : PW L d M K pc ls (v :: st) σ := by
  intro p e s m args below meth c H locs lsM hE hW hL
  exact lv_pop hE.1 hE.2.1 hd ((pw_tr_cat L v).trans hc) (kk p e s m args below meth c H locs lsM hE hW hL)
theorem pw_dup2 {v w : Value} (hd : decode M.2.2.1 pc = .ok (.dup2, 1)) (hc : v.category = 1) (hc2 : w.category = 1) (kk : PW L d M K (pc + 1) ls (v :: w :: v :: w :: st) σ) : PW L d M K pc ls (v :: w :: st) σ := by
  intro p e s m args below meth c H locs lsM hE hW hL
  exact lv_dup2_11 hE.1 hE.2.1 hd ((pw_tr_cat L v).trans hc) ((pw_tr_cat L w).trans hc2) (kk p e s m args below meth c H locs lsM hE hW hL)
theorem pw_if_eq {x : Int32} {off : Int} {tgt : Nat} (hd : decode M.2.2.1 pc = .ok (.ifCond .eq off, 3)) (ht : (pc : Int) + off = (tgt : Int)) (kt : x = 0 → PW L d M K tgt ls st σ) (kf : ¬ x = 0 → PW L d M K (pc + 3) ls st σ) : PW L d M K pc ls (.int x :: st) σ := by
  intro p e s m args below meth c H locs lsM hE hW hL
  exact lv_if_eq hE.1 hE.2.1 hd ht (fun q => kt q p e s m args below meth c H locs lsM hE hW hL) (fun q => kf q p e s m args below meth c H locs lsM hE hW hL)
theorem pw_icmp_eq {x y : Int32} {off : Int} {tgt : Nat} (hd : decode M.2.2.1 pc = .ok (.if_icmp .eq off, 3)) (ht : (pc : Int) + off = (tgt : Int)) (kt : x = y → PW L d M K tgt ls st σ) (kf : ¬ x = y → PW L d M K (pc + 3) ls st σ) : PW L d M K pc ls (.int y :: .int x :: st) σ := by
  intro p e s m args below meth c H locs lsM hE hW hL
  exact lv_icmp_eq hE.1 hE.2.1 hd ht (fun q => kt q p e s m args below meth c H locs lsM hE hW hL) (fun q => kf q p e s m args below meth c H locs lsM hE hW hL)
theorem pw_if_ne {x : Int32} {off : Int} {tgt : Nat} (hd : decode M.2.2.1 pc = .ok (.ifCond .ne off, 3)) (ht : (pc : Int) + off = (tgt : Int)) (kt : ¬ x = 0 → PW L d M K tgt ls st σ) (kf : x = 0 → PW L d M K (pc + 3) ls st σ) : PW L d M K pc ls (.int x :: st) σ := by
  intro p e s m args below meth c H locs lsM hE hW hL
  exact lv_if_ne hE.1 hE.2.1 hd ht (fun q => kt q p e s m args below meth c H locs lsM hE hW hL) (fun q => kf q p e s m args below meth c H locs lsM hE hW hL)
theorem pw_icmp_ne {x y : Int32} {off : Int} {tgt : Nat} (hd : decode M.2.2.1 pc = .ok (.if_icmp .ne off, 3)) (ht : (pc : Int) + off = (tgt : Int)) (kt : ¬ x = y → PW L d M K tgt ls st σ) (kf : x = y → PW L d M K (pc + 3) ls st σ) : PW L d M K pc ls (.int y :: .int x :: st) σ := by
  intro p e s m args below meth c H locs lsM hE hW hL
  exact lv_icmp_ne hE.1 hE.2.1 hd ht (fun q => kt q p e s m args below meth c H locs lsM hE hW hL) (fun q => kf q p e s m args below meth c H locs lsM hE hW hL)
theorem pw_if_lt {x : Int32} {off : Int} {tgt : Nat} (hd : decode M.2.2.1 pc = .ok (.ifCond .lt off, 3)) (ht : (pc : Int) + off = (tgt : Int)) (kt : x < 0 → PW L d M K tgt ls st σ) (kf : ¬ x < 0 → PW L d M K (pc + 3) ls st σ) : PW L d M K pc ls (.int x :: st) σ := by
  intro p e s m args below meth c H locs lsM hE hW hL
  exact lv_if_lt hE.1 hE.2.1 hd ht (fun q => kt q p e s m args below meth c H locs lsM hE hW hL) (fun q => kf q p e s m args below meth c H locs lsM hE hW hL)
theorem pw_icmp_lt {x y : Int32} {off : Int} {tgt : Nat} (hd : decode M.2.2.1 pc = .ok (.if_icmp .lt off, 3)) (ht : (pc : Int) + off = (tgt : Int)) (kt : x < y → PW L d M K tgt ls st σ) (kf : ¬ x < y → PW L d M K (pc + 3) ls st σ) : PW L d M K pc ls (.int y :: .int x :: st) σ := by
  intro p e s m args below meth c H locs lsM hE hW hL
  exact lv_icmp_lt hE.1 hE.2.1 hd ht (fun q => kt q p e s m args below meth c H locs lsM hE hW hL) (fun q => kf q p e s m args below meth c H locs lsM hE hW hL)
theorem pw_if_ge {x : Int32} {off : Int} {tgt : Nat} (hd : decode M.2.2.1 pc = .ok (.ifCond .ge off, 3)) (ht : (pc : Int) + off = (tgt : Int)) (kt : 0 ≤ x → PW L d M K tgt ls st σ) (kf : ¬ 0 ≤ x → PW L d M K (pc + 3) ls st σ) : PW L d M K pc ls (.int x :: st) σ := by
  intro p e s m args below meth c H locs lsM hE hW hL
  exact lv_if_ge hE.1 hE.2.1 hd ht (fun q => kt q p e s m args below meth c H locs lsM hE hW hL) (fun q => kf q p e s m args below meth c H locs lsM hE hW hL)
theorem pw_icmp_ge {x y : Int32} {off : Int} {tgt : Nat} (hd : decode M.2.2.1 pc = .ok (.if_icmp .ge off, 3)) (ht : (pc : Int) + off = (tgt : Int)) (kt : y ≤ x → PW L d M K tgt ls st σ) (kf : ¬ y ≤ x → PW L d M K (pc + 3) ls st σ) : PW L d M K pc ls (.int y :: .int x :: st) σ := by
  intro p e s m args below meth c H locs lsM hE hW hL
  exact lv_icmp_ge hE.1 hE.2.1 hd ht (fun q => kt q p e s m args below meth c H locs lsM hE hW hL) (fun q => kf q p e s m args below meth c H locs lsM hE hW hL)
theorem pw_if_gt {x : Int32} {off : Int} {tgt : Nat} (hd : decode M.2.2.1 pc = .ok (.ifCond .gt off, 3)) (ht : (pc : Int) + off = (tgt : Int)) (kt : 0 < x → PW L d M K tgt ls st σ) (kf : ¬ 0 < x → PW L d M K (pc + 3) ls st σ) : PW L d M K pc ls (.int x :: st) σ := by
  intro p e s m args below meth c H locs lsM hE hW hL
  exact lv_if_gt hE.1 hE.2.1 hd ht (fun q => kt q p e s m args below meth c H locs lsM hE hW hL) (fun q => kf q p e s m args below meth c H locs lsM hE hW hL)
theorem pw_icmp_gt {x y : Int32} {off : Int} {tgt : Nat} (hd : decode M.2.2.1 pc = .ok (.if_icmp .gt off, 3)) (ht : (pc : Int) + off = (tgt : Int)) (kt : y < x → PW L d M K tgt ls st σ) (kf : ¬ y < x → PW L d M K (pc + 3) ls st σ) : PW L d M K pc ls (.int y :: .int x :: st) σ := by
  intro p e s m args below meth c H locs lsM hE hW hL
  exact lv_icmp_gt hE.1 hE.2.1 hd ht (fun q => kt q p e s m args below meth c H locs lsM hE hW hL) (fun q => kf q p e s m args below meth c H locs lsM hE hW hL)
theorem pw_if_le {x : Int32} {off : Int} {tgt : Nat} (hd : decode M.2.2.1 pc = .ok (.ifCond .le off, 3)) (ht : (pc : Int) + off = (tgt : Int)) (kt : x ≤ 0 → PW L d M K tgt ls st σ) (kf : ¬ x ≤ 0 → PW L d M K (pc + 3) ls st σ) : PW L d M K pc ls (.int x :: st) σ := by
  intro p e s m args below meth c H locs lsM hE hW hL
  exact lv_if_le hE.1 hE.2.1 hd ht (fun q => kt q p e s m args below meth c H locs lsM hE hW hL) (fun q => kf q p e s m args below meth c H locs lsM hE hW hL)
theorem pw_icmp_le {x y : Int32} {off : Int} {tgt : Nat} (hd : decode M.2.2.1 pc = .ok (.if_icmp .le off, 3)) (ht : (pc : Int) + off = (tgt : Int)) (kt : x ≤ y → PW L d M K tgt ls st σ) (kf : ¬ x ≤ y → PW L d M K (pc + 3) ls st σ) : PW L d M K pc ls (.int y :: .int x :: st) σ := by
  intro p e s m args below meth c H locs lsM hE hW hL
  exact lv_icmp_le hE.1 hE.2.1 hd ht (fun q => kt q p e s m args below meth c H locs lsM hE hW hL) (fun q => kf q p e s m args below meth c H locs lsM hE hW hL)
theorem pw_goto {off : Int} {tgt : Nat} (hd : decode M.2.2.1 pc = .ok (.goto off, 3)) (ht : (pc : Int) + off = (tgt : Int)) (kk : PW L d M K tgt ls st σ) : PW L d M K pc ls st σ := by
  intro p e s m args below meth c H locs lsM hE hW hL
  exact lv_goto hE.1 hE.2.1 hd ht (kk p e s m args below meth c H locs lsM hE hW hL)
theorem pw_tabO {dflt lo hi : Int} {offs : Array Int} {len : Nat} {x : Int32} {tgt : Nat} (hd : decode M.2.2.1 pc = .ok (.tableswitch dflt lo hi offs, len)) (h : x.toInt < lo ∨ hi < x.toInt) (ht : (pc : Int) + dflt = (tgt : Int)) (kk : PW L d M K tgt ls st σ) : PW L d M K pc ls (.int x :: st) σ := by
  intro p e s m args below meth c H locs lsM hE hW hL
  exact lv_tableOut hE.1 hE.2.1 hd h ht (kk p e s m args below meth c H locs lsM hE hW hL)
theorem pw_tabI {dflt lo hi off : Int} {offs : Array Int} {len : Nat} {x : Int32} {tgt : Nat} (hd : decode M.2.2.1 pc = .ok (.tableswitch dflt lo hi offs, len)) (h1 : ¬ x.toInt < lo) (h2 : ¬ hi < x.toInt) (ho : offs[(x.toInt - lo).toNat]? = some off) (ht : (pc : Int) + off = (tgt : Int)) (kk : PW L d M K tgt ls st σ) : PW L d M K pc ls (.int x :: st) σ := by
  intro p e s m args below meth c H locs lsM hE hW hL
  exact lv_tableIn hE.1 hE.2.1 hd h1 h2 ho ht (kk p e s m args below meth c H locs lsM hE hW hL)
theorem pw_ret {v : Int32} {ty : FieldType} (hd : decode M.2.2.1 pc = .ok (.ireturn, 1)) (hr : M.2.2.2.2 = some ty) (hn : narrow ty (.int v) = .int v) (kk : K (some (.int v)) σ) : PW L d M K pc ls [.int v] σ := by
  intro p e s m args below meth c H locs lsM hE hW hL
  exact W.zret hE.1 hE.2.1 (hE.2.2.1.trans hr) hn (fun t ht _ => ⟨⟨some (.int v), σ, rfl, kk, by rw [ht]; exact hW.1⟩, hW.2.2.F ht⟩) hW.2.2.2.2 hd hE.2.2.2.2.2.2.2.2
theorem pw_vret (hd : decode M.2.2.1 pc = .ok (.return_, 1)) (hr : M.2.2.2.2 = none) (kk : K none σ) : PW L d M K pc ls [] σ := by
  intro p e s m args below meth c H locs lsM hE hW hL
  exact W.vret hE.1 hE.2.1 (hE.2.2.1.trans hr) (fun t ht _ => ⟨⟨none, σ, rfl, kk, by rw [ht]; exact hW.1⟩, hW.2.2.F ht⟩) hW.2.2.2.2 hd hE.2.2.2.2.2.2.2.2
end PWS
/-! calls -/
def pw_MB (M' : pw_Md) (n : Nat) : Prop := Cond.initialized M'.1.cls ∈ pw_ws ∧ Cond.code M'.1 M'.2.2.1 M'.2.2.2.1 M'.2.2.2.2 ∈ pw_ws ∧ (M'.1.cls ≠ "java/lang/invoke/MethodHandle" ∧ M'.1.cls ≠ "java/lang/invoke/VarHandle" ∧ (parseMethodDescriptor M'.1.desc).map (fun d => d.parameters.length) = some n) ∧ M'.2.2.2.1 ≤ 20
def pw_MV (own : String) (idx ci : Nat) (M' : pw_Md) (n : Nat) : Prop := (∃ (T : u_T) (N : Nat), pw_cl[ci]? = some (M'.1.cls, T, N)) ∧ Cond.methodLink own idx M'.1 ∈ pw_ws ∧ Cond.instanceMethod M'.1 ∈ pw_ws ∧ Cond.selects M'.1.cls M'.1 M'.1 ∈ pw_ws ∧ pw_MB M' n
def pw_MS (own : String) (idx : Nat) (M' : pw_Md) (n : Nat) : Prop := Cond.methodLink own idx M'.1 ∈ pw_ws ∧ Cond.static M'.1 ∈ pw_ws ∧ pw_MB M' n
def pw_MN (own : String) (idx : Nat) (M' : pw_Md) (n : Nat) : Prop := (own, idx, M'.1) ∈ pw_nest ∧ Cond.static M'.1 ∈ pw_ws ∧ pw_MB M' n
theorem pw_goods {M' : pw_Md} {n : Nat} (h : pw_MB M' n) : GoodIn pw_ws (.code M'.1 M'.2.2.1 M'.2.2.2.1 M'.2.2.2.2 :: pw_ws) := pw_good (fun w hw => (List.mem_cons.mp hw).elim (fun e => by rw [e]; exact h.2.1) id)
theorem pw_blind {L : pw_Lay} {as : List Value} {σ : pw_Mem} : FrameBlind (pw_P L as σ) := fun a U g mk q => by
  obtain ⟨q0, qP, qK, qD, qN⟩ := q
  exact ⟨q0, qP, va_K.moved (u := U) (U := U.calling g mk a) (Vm.Alike.refl U.vm) qK, qD, pw_N.same (u := U) (U := U.calling g mk a) rfl qN⟩
theorem pw_go {L : pw_Lay} {p : Program} {l : Launch} {e : Env} {R : Room} {s : State} {m : MethodId} {args : Array Value} {below : List Frame} {meth : Method} {c : Code} {H : Heap} {locs : List Loc} {Q : State → Prop} {pc : Nat} {lsM : Array Slot} {rest st0 : List Value} {a : Array Value} {H0 : Heap} {K' : pw_K} (hr : va_Run p l e R s m args below meth c H locs 0 0 0 0 (F0 m pc lsM st0) rest (pw_Q L K' a) (pw_A L)) (hS : va_S (pw_A L) H0 H locs)
    (kk : ∀ (r : Option Value) (σ' : pw_Mem) (H1 : Heap) (locs1 : List Loc), K' r σ' → va_P (pw_G L) pw_cl (pw_wl L σ') H1 → va_S (pw_A L) H0 H1 locs1 → W p l e R s m args below meth c H1 locs1 0 0 Q (F0 m (pc + 3) lsM ((r.map (pw_tr L)).toList ++ rest))) : W p l e R s m args below meth c H locs 0 0 Q (F0 m pc lsM st0) := by
  intro T hT X
  obtain ⟨v, st₀, t, T', L9, h0, X', hL, e1, e2, ⟨⟨r, σ', hv, hK, hP⟩, hz, hk⟩, st⟩ := hr T hT X
  cases hv
  rw [h0] at hz hk
  obtain ⟨t2, a1, b1⟩ := kk r σ' T'.heap (locs ++ L9) hK (by rw [e1]; exact hP)
    ⟨Nat.le_trans hS.1 (by rw [e1]; exact hz), fun q h1 h2 => by rw [e1, hk q (Nat.lt_of_lt_of_le h1 hS.1) h2]; exact hS.2.1 q h1 h2, fun q hq => by
      rcases List.mem_append.mp hq with h | h
      · exact hS.2.2 q h
      · exact hL q h⟩ T' rfl X'
  exact ⟨t2, st t2 a1, b1⟩
theorem pw_rets {L : pw_Lay} (r : Option Value) (st : List Value) : (r.map (pw_tr L)).toList ++ st.map (pw_tr L) = (r.toList ++ st).map (pw_tr L) := by cases r <;> simp
section PWC
variable {L : pw_Lay} {d : Nat} {M M' : pw_Md} {K : pw_K} {pc : Nat} {ls : List (Option Value)} {st stk : List Value} {σ : pw_Mem} {idx n : Nat}
theorem pw_rmOk {M' : pw_Md} {n : Nat} (h : pw_MB M' n) : (pw_rm d).frames + 1 ≤ (pw_rm (d + 1)).frames ∧ 8 + (M'.2.2.2.1 + 11) + (pw_rm d).locals ≤ (pw_rm (d + 1)).locals := by
  have := h.2.2.2
  refine ⟨Nat.le_refl _, ?_⟩
  show 8 + (M'.2.2.2.1 + 11) + 40 * d ≤ 40 * (d + 1)
  omega
theorem pw_callV (as : List Value) {ci k : Nat} {fs : List (Option Nat)} (hd : decode M.2.2.1 pc = .ok (.invokevirtual idx, 3)) (hm : pw_MV M.2.1 idx ci M' n) (hs : pw_shp[k]? = some (.inl (ci, fs))) (hst : stk = as.reverse ++ .ref k :: st) (hn : as.length = n) (hc : (st.map fun v => v.category).sum ≤ 8)
    (ct : CT L d M' (.ref k :: as) σ (fun r σ' => PW L (d + 1) M K (pc + 3) ls (r.toList ++ st) σ')) : PW L (d + 1) M K pc ls stk σ := by
  intro p e s m args below meth c H locs lsM hE hW hL
  obtain ⟨⟨T, N, hcl⟩, h1, h2, h3, h4⟩ := hm
  have hts := hE.2.2.2.2.1
  have hrun := va_runV (l := pw_l L) (R := pw_rm (d + 1)) (H := H) (locs := locs) (cells := 0) (slots := 0) (below := below) (meth := meth) (e := e) (g := F0 m pc lsM (stk.map (pw_tr L))) (b := pw_ad L k) (As := as.map (pw_tr L)) (rest := st.map (pw_tr L)) ⟨hE.1, hE.2.1, hE.2.2.2.1, hE.2.2.2.2.2.1, hts⟩ ct ⟨callB_of n hts (pw_goods h4) rfl rfl rfl (hts _ h4.1) (hts _ h1) h4.2.2.1 (pw_rmOk h4), hts _ h2, hts _ h3⟩
    ⟨pw_blind, va_recv hE.2.2.2.2.2.2.1 hW.1 hcl (pw_wl_at hs), fun U hU hWm => ⟨rfl, by rw [hU]; exact hW.1, va_K.moved hWm.alike hE.2.2.2.2.2.2.1, hW.2.1, pw_N.warm hWm hE.2.2.2.2.2.2.2.1⟩⟩ rfl (by rw [List.length_map]; exact hn) hL.1 (by show stk.map (pw_tr L) = _; rw [hst, List.map_append, List.map_reverse]; rfl) (lv_room (by rw [pw_cats]; exact hc)) hd ⟨Nat.zero_le _, Nat.zero_le _⟩
  refine pw_go hrun hW.2.2 (fun r σ' H1 locs1 hK hP hS => ?_)
  rw [pw_rets]
  exact hK p e s m args below meth c H1 locs1 lsM hE ⟨hP, pw_D_any hW.2.1, hS⟩ hL
theorem pw_callS (as : List Value) (hd : decode M.2.2.1 pc = .ok (.invokestatic idx, 3)) (hm : pw_MS M.2.1 idx M' n) (hst : stk = as.reverse ++ st) (hn : as.length = n) (hc : (st.map fun v => v.category).sum ≤ 8)
    (ct : CT L d M' as σ (fun r σ' => PW L (d + 1) M K (pc + 3) ls (r.toList ++ st) σ')) : PW L (d + 1) M K pc ls stk σ := by
  intro p e s m args below meth c H locs lsM hE hW hL
  obtain ⟨h1, h2, h4⟩ := hm
  have hts := hE.2.2.2.2.1
  have hrun := va_runS (l := pw_l L) (R := pw_rm (d + 1)) (H := H) (locs := locs) (cells := 0) (slots := 0) (below := below) (meth := meth) (e := e) (g := F0 m pc lsM (stk.map (pw_tr L))) (As := as.map (pw_tr L)) (rest := st.map (pw_tr L)) ⟨hE.1, hE.2.1, hE.2.2.2.1, hE.2.2.2.2.2.1, hts⟩ ct ⟨callB_of n hts (pw_goods h4) rfl rfl rfl (hts _ h4.1) (hts _ h1) h4.2.2.1 (pw_rmOk h4), hts _ h2⟩
    ⟨pw_blind, fun U hU hWm => ⟨rfl, by rw [hU]; exact hW.1, va_K.moved hWm.alike hE.2.2.2.2.2.2.1, hW.2.1, pw_N.warm hWm hE.2.2.2.2.2.2.2.1⟩⟩ rfl (by rw [List.length_map]; exact hn) hL.1 (by show stk.map (pw_tr L) = _; rw [hst, List.map_append, List.map_reverse]) (lv_room (by rw [pw_cats]; exact hc)) hd ⟨Nat.zero_le _, Nat.zero_le _⟩
  refine pw_go hrun hW.2.2 (fun r σ' H1 locs1 hK hP hS => ?_)
  rw [pw_rets]
  exact hK p e s m args below meth c H1 locs1 lsM hE ⟨hP, pw_D_any hW.2.1, hS⟩ hL
theorem pw_callN (as : List Value) (hd : decode M.2.2.1 pc = .ok (.invokestatic idx, 3)) (hm : pw_MN M.2.1 idx M' n) (hst : stk = as.reverse ++ st) (hn : as.length = n) (hc : (st.map fun v => v.category).sum ≤ 8)
    (ct : CT L d M' as σ (fun r σ' => PW L (d + 1) M K (pc + 3) ls (r.toList ++ st) σ')) : PW L (d + 1) M K pc ls stk σ := by
  intro p e s m args below meth c H locs lsM hE hW hL
  obtain ⟨h1, h2, h4⟩ := hm
  have hts := hE.2.2.2.2.1
  have hrun := va_runSN (l := pw_l L) (R := pw_rm (d + 1)) (H := H) (locs := locs) (cells := 0) (slots := 0) (below := below) (meth := meth) (e := e) (g := F0 m pc lsM (stk.map (pw_tr L))) (As := as.map (pw_tr L)) (rest := st.map (pw_tr L)) ⟨hE.1, hE.2.1, hE.2.2.2.1, hE.2.2.2.2.2.1, hts⟩ ct ⟨va_cnB (host := "StackDepths") n hts (pw_goods h4) rfl rfl rfl (hE.2.2.2.2.2.2.2.1 _ h1) (hts _ h4.1) h4.2.2.1 (pw_rmOk h4), hts _ h2, trivial⟩
    ⟨pw_blind, fun U hU hWm => ⟨rfl, by rw [hU]; exact hW.1, va_K.moved hWm.alike hE.2.2.2.2.2.2.1, hW.2.1, pw_N.warm hWm hE.2.2.2.2.2.2.2.1⟩⟩ rfl (by rw [List.length_map]; exact hn) hL.1 (by show stk.map (pw_tr L) = _; rw [hst, List.map_append, List.map_reverse]) (lv_room (by rw [pw_cats]; exact hc)) hd ⟨Nat.zero_le _, Nat.zero_le _⟩
  refine pw_go hrun hW.2.2 (fun r σ' H1 locs1 hK hP hS => ?_)
  rw [pw_rets]
  exact hK p e s m args below meth c H1 locs1 lsM hE ⟨hP, pw_D_any hW.2.1, hS⟩ hL
end PWC
end
section
theorem pw_uX0 : ∀ w ∈ u_ws RX0 TX0 2, w ∈ pw_ws := fun w hw => pw_in ((by decide +kernel : ∀ w ∈ u_ws RX0 TX0 2, w ∈ lw_tbl) w hw) ((by decide +kernel : ∀ w ∈ u_ws RX0 TX0 2, goodWord w = true) w hw)
theorem pw_uX1 : ∀ w ∈ u_ws RX1 TX1 4, w ∈ pw_ws := fun w hw => pw_in ((by decide +kernel : ∀ w ∈ u_ws RX1 TX1 4, w ∈ lw_tbl) w hw) ((by decide +kernel : ∀ w ∈ u_ws RX1 TX1 4, goodWord w = true) w hw)
theorem pw_uX2 : ∀ w ∈ u_ws RX2 TX2 11, w ∈ pw_ws := fun w hw => pw_in ((by decide +kernel : ∀ w ∈ u_ws RX2 TX2 11, w ∈ lw_tbl) w hw) ((by decide +kernel : ∀ w ∈ u_ws RX2 TX2 11, goodWord w = true) w hw)
theorem pw_uX3 : ∀ w ∈ u_ws RX3 TX3 4, w ∈ pw_ws := fun w hw => pw_in ((by decide +kernel : ∀ w ∈ u_ws RX3 TX3 4, w ∈ lw_tbl) w hw) ((by decide +kernel : ∀ w ∈ u_ws RX3 TX3 4, goodWord w = true) w hw)
theorem pw_uX4 : ∀ w ∈ u_ws RX4 TX4 3, w ∈ pw_ws := fun w hw => pw_in ((by decide +kernel : ∀ w ∈ u_ws RX4 TX4 3, w ∈ lw_tbl) w hw) ((by decide +kernel : ∀ w ∈ u_ws RX4 TX4 3, goodWord w = true) w hw)
theorem pw_uX5 : ∀ w ∈ u_ws RX5 TX5 3, w ∈ pw_ws := fun w hw => pw_in ((by decide +kernel : ∀ w ∈ u_ws RX5 TX5 3, w ∈ lw_tbl) w hw) ((by decide +kernel : ∀ w ∈ u_ws RX5 TX5 3, goodWord w = true) w hw)
theorem pw_uX6 : ∀ w ∈ u_ws RX6 TX6 6, w ∈ pw_ws := fun w hw => pw_in ((by decide +kernel : ∀ w ∈ u_ws RX6 TX6 6, w ∈ lw_tbl) w hw) ((by decide +kernel : ∀ w ∈ u_ws RX6 TX6 6, goodWord w = true) w hw)
theorem pw_uX7 : ∀ w ∈ u_ws RX7 TX7 3, w ∈ pw_ws := fun w hw => pw_in ((by decide +kernel : ∀ w ∈ u_ws RX7 TX7 3, w ∈ lw_tbl) w hw) ((by decide +kernel : ∀ w ∈ u_ws RX7 TX7 3, goodWord w = true) w hw)
theorem pw_uX8 : ∀ w ∈ u_ws RX8 TX8 5, w ∈ pw_ws := fun w hw => pw_in ((by decide +kernel : ∀ w ∈ u_ws RX8 TX8 5, w ∈ lw_tbl) w hw) ((by decide +kernel : ∀ w ∈ u_ws RX8 TX8 5, goodWord w = true) w hw)
theorem pw_uX9 : ∀ w ∈ u_ws RX9 TX9 8, w ∈ pw_ws := fun w hw => pw_in ((by decide +kernel : ∀ w ∈ u_ws RX9 TX9 8, w ∈ lw_tbl) w hw) ((by decide +kernel : ∀ w ∈ u_ws RX9 TX9 8, goodWord w = true) w hw)
theorem pw_uX10 : ∀ w ∈ u_ws RX10 TX10 10, w ∈ pw_ws := fun w hw => pw_in ((by decide +kernel : ∀ w ∈ u_ws RX10 TX10 10, w ∈ lw_tbl) w hw) ((by decide +kernel : ∀ w ∈ u_ws RX10 TX10 10, goodWord w = true) w hw)
theorem pw_uX11 : ∀ w ∈ u_ws RX11 TX11 39, w ∈ pw_ws := fun w hw => pw_in ((by decide +kernel : ∀ w ∈ u_ws RX11 TX11 39, w ∈ lw_tbl) w hw) ((by decide +kernel : ∀ w ∈ u_ws RX11 TX11 39, goodWord w = true) w hw)
abbrev m_X10_init : pw_Md := (yX10_init, RX10, cX10_init, 2, none)
theorem mb_X10_init : pw_MB m_X10_init 0 := ⟨pw_tab 1 (by decide +kernel) rfl, pw_tab 19 (by decide +kernel) rfl, by decide +kernel, by decide⟩
abbrev m_X5_init : pw_Md := (yX5_init, RX5, cX5_init, 1, none)
theorem mb_X5_init : pw_MB m_X5_init 0 := ⟨pw_tab 2 (by decide +kernel) rfl, pw_tab 27 (by decide +kernel) rfl, by decide +kernel, by decide⟩
abbrev m_X4_init : pw_Md := (yX4_init, RX4, cX4_init, 1, none)
theorem mb_X4_init : pw_MB m_X4_init 0 := ⟨pw_tab 3 (by decide +kernel) rfl, pw_tab 51 (by decide +kernel) rfl, by decide +kernel, by decide⟩
abbrev m_X0_init : pw_Md := (yX0_init, RX0, cX0_init, 1, none)
theorem mb_X0_init : pw_MB m_X0_init 0 := ⟨pw_tab 4 (by decide +kernel) rfl, pw_tab 71 (by decide +kernel) rfl, by decide +kernel, by decide⟩
abbrev m_X2_init : pw_Md := (yX2_init, RX2, cX2_init, 4, none)
theorem mb_X2_init : pw_MB m_X2_init 3 := ⟨pw_tab 5 (by decide +kernel) rfl, pw_tab 88 (by decide +kernel) rfl, by decide +kernel, by decide⟩
abbrev m_X1_init : pw_Md := (yX1_init, RX1, cX1_init, 3, none)
theorem mb_X1_init : pw_MB m_X1_init 2 := ⟨pw_tab 6 (by decide +kernel) rfl, pw_tab 139 (by decide +kernel) rfl, by decide +kernel, by decide⟩
abbrev m_X3_init : pw_Md := (yX3_init, RX3, cX3_init, 1, none)
theorem mb_X3_init : pw_MB m_X3_init 0 := ⟨pw_tab 7 (by decide +kernel) rfl, pw_tab 159 (by decide +kernel) rfl, by decide +kernel, by decide⟩
abbrev m_X8_init : pw_Md := (yX8_init, RX8, cX8_init, 1, none)
theorem mb_X8_init : pw_MB m_X8_init 0 := ⟨pw_tab 8 (by decide +kernel) rfl, pw_tab 179 (by decide +kernel) rfl, by decide +kernel, by decide⟩
abbrev m_X6_init : pw_Md := (yX6_init, RX6, cX6_init, 1, none)
theorem mb_X6_init : pw_MB m_X6_init 0 := ⟨pw_tab 9 (by decide +kernel) rfl, pw_tab 208 (by decide +kernel) rfl, by decide +kernel, by decide⟩
abbrev m_X9_init : pw_Md := (yX9_init, RX9, cX9_init, 1, none)
theorem mb_X9_init : pw_MB m_X9_init 0 := ⟨pw_tab 10 (by decide +kernel) rfl, pw_tab 235 (by decide +kernel) rfl, by decide +kernel, by decide⟩
abbrev m_X7_init : pw_Md := (yX7_init, RX7, cX7_init, 1, none)
theorem mb_X7_init : pw_MB m_X7_init 0 := ⟨pw_tab 11 (by decide +kernel) rfl, pw_tab 273 (by decide +kernel) rfl, by decide +kernel, by decide⟩
abbrev m_X10_routine : pw_Md := (yX10_routine, RX10, cX10_routine, 2, some .int)
theorem mb_X10_routine : pw_MB m_X10_routine 1 := ⟨pw_tab 1 (by decide +kernel) rfl, pw_tab 322 (by decide +kernel) rfl, by decide +kernel, by decide⟩
abbrev m_X10_within : pw_Md := (yX10_within, RX10, cX10_within, 3, some .boolean)
theorem mb_X10_within : pw_MB m_X10_within 3 := ⟨pw_tab 1 (by decide +kernel) rfl, pw_tab 325 (by decide +kernel) rfl, by decide +kernel, by decide⟩
abbrev m_X2_outdate : pw_Md := (yX2_outdate, RX2, cX2_outdate, 1, none)
theorem mb_X2_outdate : pw_MB m_X2_outdate 0 := ⟨pw_tab 5 (by decide +kernel) rfl, pw_tab 329 (by decide +kernel) rfl, by decide +kernel, by decide⟩
abbrev m_X5_add : pw_Md := (yX5_add, RX5, cX5_add, 2, some .int)
theorem mb_X5_add : pw_MB m_X5_add 1 := ⟨pw_tab 2 (by decide +kernel) rfl, pw_tab 333 (by decide +kernel) rfl, by decide +kernel, by decide⟩
abbrev m_X10_frame : pw_Md := (yX10_frame, RX10, cX10_frame, 4, some .int)
theorem mb_X10_frame : pw_MB m_X10_frame 2 := ⟨pw_tab 1 (by decide +kernel) rfl, pw_tab 337 (by decide +kernel) rfl, by decide +kernel, by decide⟩
abbrev m_X10_isRoutine : pw_Md := (yX10_isRoutine, RX10, cX10_isRoutine, 2, some .boolean)
theorem mb_X10_isRoutine : pw_MB m_X10_isRoutine 1 := ⟨pw_tab 1 (by decide +kernel) rfl, pw_tab 341 (by decide +kernel) rfl, by decide +kernel, by decide⟩
abbrev m_X10_turns : pw_Md := (yX10_turns, RX10, cX10_turns, 4, some .int)
theorem mb_X10_turns : pw_MB m_X10_turns 2 := ⟨pw_tab 1 (by decide +kernel) rfl, pw_tab 345 (by decide +kernel) rfl, by decide +kernel, by decide⟩
abbrev m_X10_call : pw_Md := (yX10_call, RX10, cX10_call, 7, some .int)
theorem mb_X10_call : pw_MB m_X10_call 4 := ⟨pw_tab 1 (by decide +kernel) rfl, pw_tab 349 (by decide +kernel) rfl, by decide +kernel, by decide⟩
abbrev m_X10_kindOf : pw_Md := (yX10_kindOf, RX10, cX10_kindOf, 2, some .int)
theorem mb_X10_kindOf : pw_MB m_X10_kindOf 2 := ⟨pw_tab 1 (by decide +kernel) rfl, pw_tab 352 (by decide +kernel) rfl, by decide +kernel, by decide⟩
abbrev m_X10_refusalOfCall : pw_Md := (yX10_refusalOfCall, RX10, cX10_refusalOfCall, 4, some .int)
theorem mb_X10_refusalOfCall : pw_MB m_X10_refusalOfCall 3 := ⟨pw_tab 1 (by decide +kernel) rfl, pw_tab 356 (by decide +kernel) rfl, by decide +kernel, by decide⟩
abbrev m_X10_canBeCall : pw_Md := (yX10_canBeCall, RX10, cX10_canBeCall, 4, some .boolean)
theorem mb_X10_canBeCall : pw_MB m_X10_canBeCall 3 := ⟨pw_tab 1 (by decide +kernel) rfl, pw_tab 360 (by decide +kernel) rfl, by decide +kernel, by decide⟩
abbrev m_X10_isPointer : pw_Md := (yX10_isPointer, RX10, cX10_isPointer, 1, some .boolean)
theorem mb_X10_isPointer : pw_MB m_X10_isPointer 1 := ⟨pw_tab 1 (by decide +kernel) rfl, pw_tab 363 (by decide +kernel) rfl, by decide +kernel, by decide⟩
abbrev m_X0_has : pw_Md := (yX0_has, RX0, cX0_has, 4, some .boolean)
theorem mb_X0_has : pw_MB m_X0_has 3 := ⟨pw_tab 4 (by decide +kernel) rfl, pw_tab 367 (by decide +kernel) rfl, by decide +kernel, by decide⟩
abbrev m_X10_holds : pw_Md := (yX10_holds, RX10, cX10_holds, 2, some .boolean)
theorem mb_X10_holds : pw_MB m_X10_holds 2 := ⟨pw_tab 1 (by decide +kernel) rfl, pw_tab 370 (by decide +kernel) rfl, by decide +kernel, by decide⟩
abbrev m_X0_add : pw_Md := (yX0_add, RX0, cX0_add, 4, none)
theorem mb_X0_add : pw_MB m_X0_add 3 := ⟨pw_tab 4 (by decide +kernel) rfl, pw_tab 374 (by decide +kernel) rfl, by decide +kernel, by decide⟩
abbrev m_X10_cut : pw_Md := (yX10_cut, RX10, cX10_cut, 6, some .int)
theorem mb_X10_cut : pw_MB m_X10_cut 4 := ⟨pw_tab 1 (by decide +kernel) rfl, pw_tab 378 (by decide +kernel) rfl, by decide +kernel, by decide⟩
abbrev m_X0_remove : pw_Md := (yX0_remove, RX0, cX0_remove, 4, none)
theorem mb_X0_remove : pw_MB m_X0_remove 3 := ⟨pw_tab 4 (by decide +kernel) rfl, pw_tab 382 (by decide +kernel) rfl, by decide +kernel, by decide⟩
abbrev m_X10_take : pw_Md := (yX10_take, RX10, cX10_take, 3, some .int)
theorem mb_X10_take : pw_MB m_X10_take 2 := ⟨pw_tab 1 (by decide +kernel) rfl, pw_tab 386 (by decide +kernel) rfl, by decide +kernel, by decide⟩
abbrev m_X4_addTaken : pw_Md := (yX4_addTaken, RX4, cX4_addTaken, 3, none)
theorem mb_X4_addTaken : pw_MB m_X4_addTaken 2 := ⟨pw_tab 3 (by decide +kernel) rfl, pw_tab 391 (by decide +kernel) rfl, by decide +kernel, by decide⟩
abbrev m_X4_spreadGoals : pw_Md := (yX4_spreadGoals, RX4, cX4_spreadGoals, 3, none)
theorem mb_X4_spreadGoals : pw_MB m_X4_spreadGoals 0 := ⟨pw_tab 3 (by decide +kernel) rfl, pw_tab 395 (by decide +kernel) rfl, by decide +kernel, by decide⟩
abbrev m_X4_unionOf : pw_Md := (yX4_unionOf, RX4, cX4_unionOf, 4, some .int)
theorem mb_X4_unionOf : pw_MB m_X4_unionOf 2 := ⟨pw_tab 3 (by decide +kernel) rfl, pw_tab 398 (by decide +kernel) rfl, by decide +kernel, by decide⟩
abbrev m_X10_flow : pw_Md := (yX10_flow, RX10, cX10_flow, 3, some .int)
theorem mb_X10_flow : pw_MB m_X10_flow 2 := ⟨pw_tab 1 (by decide +kernel) rfl, pw_tab 403 (by decide +kernel) rfl, by decide +kernel, by decide⟩
abbrev m_X4_addSource : pw_Md := (yX4_addSource, RX4, cX4_addSource, 3, none)
theorem mb_X4_addSource : pw_MB m_X4_addSource 2 := ⟨pw_tab 3 (by decide +kernel) rfl, pw_tab 407 (by decide +kernel) rfl, by decide +kernel, by decide⟩
abbrev m_X10_goals : pw_Md := (yX10_goals, RX10, cX10_goals, 2, some .int)
theorem mb_X10_goals : pw_MB m_X10_goals 1 := ⟨pw_tab 1 (by decide +kernel) rfl, pw_tab 411 (by decide +kernel) rfl, by decide +kernel, by decide⟩
abbrev m_X10_about : pw_Md := (yX10_about, RX10, cX10_about, 3, some .int)
theorem mb_X10_about : pw_MB m_X10_about 2 := ⟨pw_tab 1 (by decide +kernel) rfl, pw_tab 415 (by decide +kernel) rfl, by decide +kernel, by decide⟩
abbrev m_X2_refresh : pw_Md := (yX2_refresh, RX2, cX2_refresh, 1, none)
theorem mb_X2_refresh : pw_MB m_X2_refresh 0 := ⟨pw_tab 5 (by decide +kernel) rfl, pw_tab 419 (by decide +kernel) rfl, by decide +kernel, by decide⟩
abbrev m_X2_drawCalls : pw_Md := (yX2_drawCalls, RX2, cX2_drawCalls, 4, none)
theorem mb_X2_drawCalls : pw_MB m_X2_drawCalls 0 := ⟨pw_tab 5 (by decide +kernel) rfl, pw_tab 423 (by decide +kernel) rfl, by decide +kernel, by decide⟩
abbrev m_X2_closeReach : pw_Md := (yX2_closeReach, RX2, cX2_closeReach, 3, none)
theorem mb_X2_closeReach : pw_MB m_X2_closeReach 0 := ⟨pw_tab 5 (by decide +kernel) rfl, pw_tab 428 (by decide +kernel) rfl, by decide +kernel, by decide⟩
abbrev m_X2_gatherTogether : pw_Md := (yX2_gatherTogether, RX2, cX2_gatherTogether, 3, none)
theorem mb_X2_gatherTogether : pw_MB m_X2_gatherTogether 0 := ⟨pw_tab 5 (by decide +kernel) rfl, pw_tab 433 (by decide +kernel) rfl, by decide +kernel, by decide⟩
abbrev m_X2_markRings : pw_Md := (yX2_markRings, RX2, cX2_markRings, 2, none)
theorem mb_X2_markRings : pw_MB m_X2_markRings 0 := ⟨pw_tab 5 (by decide +kernel) rfl, pw_tab 437 (by decide +kernel) rfl, by decide +kernel, by decide⟩
abbrev m_X2_orderLeaders : pw_Md := (yX2_orderLeaders, RX2, cX2_orderLeaders, 3, none)
theorem mb_X2_orderLeaders : pw_MB m_X2_orderLeaders 0 := ⟨pw_tab 5 (by decide +kernel) rfl, pw_tab 441 (by decide +kernel) rfl, by decide +kernel, by decide⟩
abbrev m_X10_leastOf : pw_Md := (yX10_leastOf, RX10, cX10_leastOf, 2, some .int)
theorem mb_X10_leastOf : pw_MB m_X10_leastOf 1 := ⟨pw_tab 1 (by decide +kernel) rfl, pw_tab 444 (by decide +kernel) rfl, by decide +kernel, by decide⟩
abbrev m_X2_selfAndReached : pw_Md := (yX2_selfAndReached, RX2, cX2_selfAndReached, 2, some .int)
theorem mb_X2_selfAndReached : pw_MB m_X2_selfAndReached 1 := ⟨pw_tab 5 (by decide +kernel) rfl, pw_tab 448 (by decide +kernel) rfl, by decide +kernel, by decide⟩
abbrev m_J6_bitCount_0f7a4 : pw_Md := (yJ6_bitCount_0f7a4, RJ6, cJ6_bitCount_0f7a4, 1, some .int)
theorem mb_J6_bitCount_0f7a4 : pw_MB m_J6_bitCount_0f7a4 1 := ⟨pw_tab 13 (by decide +kernel) rfl, pw_tab 451 (by decide +kernel) rfl, by decide +kernel, by decide⟩
abbrev m_X2_howManyReach : pw_Md := (yX2_howManyReach, RX2, cX2_howManyReach, 4, some .int)
theorem mb_X2_howManyReach : pw_MB m_X2_howManyReach 1 := ⟨pw_tab 5 (by decide +kernel) rfl, pw_tab 460 (by decide +kernel) rfl, by decide +kernel, by decide⟩
abbrev m_X10_depth : pw_Md := (yX10_depth, RX10, cX10_depth, 2, some .int)
theorem mb_X10_depth : pw_MB m_X10_depth 1 := ⟨pw_tab 1 (by decide +kernel) rfl, pw_tab 464 (by decide +kernel) rfl, by decide +kernel, by decide⟩
abbrev m_X1_measure : pw_Md := (yX1_measure, RX1, cX1_measure, 5, none)
theorem mb_X1_measure : pw_MB m_X1_measure 1 := ⟨pw_tab 6 (by decide +kernel) rfl, pw_tab 468 (by decide +kernel) rfl, by decide +kernel, by decide⟩
abbrev m_X1_depthOfRing : pw_Md := (yX1_depthOfRing, RX1, cX1_depthOfRing, 5, some .int)
theorem mb_X1_depthOfRing : pw_MB m_X1_depthOfRing 1 := ⟨pw_tab 6 (by decide +kernel) rfl, pw_tab 474 (by decide +kernel) rfl, by decide +kernel, by decide⟩
abbrev m_X1_frameOf : pw_Md := (yX1_frameOf, RX1, cX1_frameOf, 2, some .int)
theorem mb_X1_frameOf : pw_MB m_X1_frameOf 1 := ⟨pw_tab 6 (by decide +kernel) rfl, pw_tab 478 (by decide +kernel) rfl, by decide +kernel, by decide⟩
abbrev m_X1_greatestOf : pw_Md := (yX1_greatestOf, RX1, cX1_greatestOf, 4, some .int)
theorem mb_X1_greatestOf : pw_MB m_X1_greatestOf 1 := ⟨pw_tab 6 (by decide +kernel) rfl, pw_tab 482 (by decide +kernel) rfl, by decide +kernel, by decide⟩
abbrev m_X10_greater : pw_Md := (yX10_greater, RX10, cX10_greater, 2, some .int)
theorem mb_X10_greater : pw_MB m_X10_greater 2 := ⟨pw_tab 1 (by decide +kernel) rfl, pw_tab 485 (by decide +kernel) rfl, by decide +kernel, by decide⟩
abbrev m_X10_plus : pw_Md := (yX10_plus, RX10, cX10_plus, 2, some .int)
theorem mb_X10_plus : pw_MB m_X10_plus 2 := ⟨pw_tab 1 (by decide +kernel) rfl, pw_tab 488 (by decide +kernel) rfl, by decide +kernel, by decide⟩
abbrev m_X1_depthOfTails : pw_Md := (yX1_depthOfTails, RX1, cX1_depthOfTails, 4, some .int)
theorem mb_X1_depthOfTails : pw_MB m_X1_depthOfTails 1 := ⟨pw_tab 6 (by decide +kernel) rfl, pw_tab 492 (by decide +kernel) rfl, by decide +kernel, by decide⟩
abbrev m_X1_depthOfItself : pw_Md := (yX1_depthOfItself, RX1, cX1_depthOfItself, 3, some .int)
theorem mb_X1_depthOfItself : pw_MB m_X1_depthOfItself 1 := ⟨pw_tab 6 (by decide +kernel) rfl, pw_tab 496 (by decide +kernel) rfl, by decide +kernel, by decide⟩
abbrev m_X1_spread : pw_Md := (yX1_spread, RX1, cX1_spread, 4, none)
theorem mb_X1_spread : pw_MB m_X1_spread 2 := ⟨pw_tab 6 (by decide +kernel) rfl, pw_tab 500 (by decide +kernel) rfl, by decide +kernel, by decide⟩
abbrev m_X10_way : pw_Md := (yX10_way, RX10, cX10_way, 6, some .int)
theorem mb_X10_way : pw_MB m_X10_way 2 := ⟨pw_tab 1 (by decide +kernel) rfl, pw_tab 504 (by decide +kernel) rfl, by decide +kernel, by decide⟩
abbrev m_J9_min_7cf53 : pw_Md := (yJ9_min_7cf53, RJ9, cJ9_min_7cf53, 2, some .int)
theorem mb_J9_min_7cf53 : pw_MB m_J9_min_7cf53 2 := ⟨pw_tab 14 (by decide +kernel) rfl, pw_tab 508 (by decide +kernel) rfl, by decide +kernel, by decide⟩
abbrev m_X1_nextOnWay : pw_Md := (yX1_nextOnWay, RX1, cX1_nextOnWay, 4, some .int)
theorem mb_X1_nextOnWay : pw_MB m_X1_nextOnWay 1 := ⟨pw_tab 6 (by decide +kernel) rfl, pw_tab 512 (by decide +kernel) rfl, by decide +kernel, by decide⟩
abbrev m_X1_leastThatTells : pw_Md := (yX1_leastThatTells, RX1, cX1_leastThatTells, 4, some .int)
theorem mb_X1_leastThatTells : pw_MB m_X1_leastThatTells 2 := ⟨pw_tab 6 (by decide +kernel) rfl, pw_tab 516 (by decide +kernel) rfl, by decide +kernel, by decide⟩
abbrev m_X1_leastThatHas : pw_Md := (yX1_leastThatHas, RX1, cX1_leastThatHas, 4, some .int)
theorem mb_X1_leastThatHas : pw_MB m_X1_leastThatHas 2 := ⟨pw_tab 6 (by decide +kernel) rfl, pw_tab 520 (by decide +kernel) rfl, by decide +kernel, by decide⟩
abbrev m_X10_endless : pw_Md := (yX10_endless, RX10, cX10_endless, 2, some .int)
theorem mb_X10_endless : pw_MB m_X10_endless 1 := ⟨pw_tab 1 (by decide +kernel) rfl, pw_tab 524 (by decide +kernel) rfl, by decide +kernel, by decide⟩
abbrev m_X5_withoutTurns : pw_Md := (yX5_withoutTurns, RX5, cX5_withoutTurns, 3, some .int)
theorem mb_X5_withoutTurns : pw_MB m_X5_withoutTurns 0 := ⟨pw_tab 2 (by decide +kernel) rfl, pw_tab 528 (by decide +kernel) rfl, by decide +kernel, by decide⟩
abbrev m_X10_interrupt : pw_Md := (yX10_interrupt, RX10, cX10_interrupt, 4, some .int)
theorem mb_X10_interrupt : pw_MB m_X10_interrupt 3 := ⟨pw_tab 1 (by decide +kernel) rfl, pw_tab 532 (by decide +kernel) rfl, by decide +kernel, by decide⟩
abbrev m_X3_add : pw_Md := (yX3_add, RX3, cX3_add, 4, some .int)
theorem mb_X3_add : pw_MB m_X3_add 3 := ⟨pw_tab 7 (by decide +kernel) rfl, pw_tab 536 (by decide +kernel) rfl, by decide +kernel, by decide⟩
abbrev m_X10_task : pw_Md := (yX10_task, RX10, cX10_task, 4, some .int)
theorem mb_X10_task : pw_MB m_X10_task 3 := ⟨pw_tab 1 (by decide +kernel) rfl, pw_tab 540 (by decide +kernel) rfl, by decide +kernel, by decide⟩
abbrev m_X8_add : pw_Md := (yX8_add, RX8, cX8_add, 4, some .int)
theorem mb_X8_add : pw_MB m_X8_add 3 := ⟨pw_tab 8 (by decide +kernel) rfl, pw_tab 544 (by decide +kernel) rfl, by decide +kernel, by decide⟩
abbrev m_X10_total : pw_Md := (yX10_total, RX10, cX10_total, 3, some .int)
theorem mb_X10_total : pw_MB m_X10_total 2 := ⟨pw_tab 1 (by decide +kernel) rfl, pw_tab 548 (by decide +kernel) rfl, by decide +kernel, by decide⟩
abbrev m_X10_isTask : pw_Md := (yX10_isTask, RX10, cX10_isTask, 2, some .boolean)
theorem mb_X10_isTask : pw_MB m_X10_isTask 1 := ⟨pw_tab 1 (by decide +kernel) rfl, pw_tab 552 (by decide +kernel) rfl, by decide +kernel, by decide⟩
abbrev m_X3_topAbove : pw_Md := (yX3_topAbove, RX3, cX3_topAbove, 5, some .int)
theorem mb_X3_topAbove : pw_MB m_X3_topAbove 2 := ⟨pw_tab 7 (by decide +kernel) rfl, pw_tab 556 (by decide +kernel) rfl, by decide +kernel, by decide⟩
abbrev m_X3_greatestAt : pw_Md := (yX3_greatestAt, RX3, cX3_greatestAt, 5, some .int)
theorem mb_X3_greatestAt : pw_MB m_X3_greatestAt 2 := ⟨pw_tab 7 (by decide +kernel) rfl, pw_tab 560 (by decide +kernel) rfl, by decide +kernel, by decide⟩
abbrev m_X10_totalAsMeasured : pw_Md := (yX10_totalAsMeasured, RX10, cX10_totalAsMeasured, 2, some .int)
theorem mb_X10_totalAsMeasured : pw_MB m_X10_totalAsMeasured 1 := ⟨pw_tab 1 (by decide +kernel) rfl, pw_tab 566 (by decide +kernel) rfl, by decide +kernel, by decide⟩
abbrev m_X10_roomAsMeasured : pw_Md := (yX10_roomAsMeasured, RX10, cX10_roomAsMeasured, 2, some .int)
theorem mb_X10_roomAsMeasured : pw_MB m_X10_roomAsMeasured 1 := ⟨pw_tab 1 (by decide +kernel) rfl, pw_tab 571 (by decide +kernel) rfl, by decide +kernel, by decide⟩
abbrev m_X10_apart : pw_Md := (yX10_apart, RX10, cX10_apart, 5, some .int)
theorem mb_X10_apart : pw_MB m_X10_apart 3 := ⟨pw_tab 1 (by decide +kernel) rfl, pw_tab 575 (by decide +kernel) rfl, by decide +kernel, by decide⟩
abbrev m_X8_setApart : pw_Md := (yX8_setApart, RX8, cX8_setApart, 4, none)
theorem mb_X8_setApart : pw_MB m_X8_setApart 3 := ⟨pw_tab 8 (by decide +kernel) rfl, pw_tab 579 (by decide +kernel) rfl, by decide +kernel, by decide⟩
abbrev m_X10_shared : pw_Md := (yX10_shared, RX10, cX10_shared, 1, some .int)
theorem mb_X10_shared : pw_MB m_X10_shared 0 := ⟨pw_tab 1 (by decide +kernel) rfl, pw_tab 583 (by decide +kernel) rfl, by decide +kernel, by decide⟩
abbrev m_X10_shareRooms : pw_Md := (yX10_shareRooms, RX10, cX10_shareRooms, 3, some .int)
theorem mb_X10_shareRooms : pw_MB m_X10_shareRooms 0 := ⟨pw_tab 1 (by decide +kernel) rfl, pw_tab 587 (by decide +kernel) rfl, by decide +kernel, by decide⟩
abbrev m_X6_divide : pw_Md := (yX6_divide, RX6, cX6_divide, 2, some .int)
theorem mb_X6_divide : pw_MB m_X6_divide 1 := ⟨pw_tab 9 (by decide +kernel) rfl, pw_tab 591 (by decide +kernel) rfl, by decide +kernel, by decide⟩
abbrev m_X6_place : pw_Md := (yX6_place, RX6, cX6_place, 7, none)
theorem mb_X6_place : pw_MB m_X6_place 4 := ⟨pw_tab 9 (by decide +kernel) rfl, pw_tab 596 (by decide +kernel) rfl, by decide +kernel, by decide⟩
abbrev m_X6_keep : pw_Md := (yX6_keep, RX6, cX6_keep, 3, none)
theorem mb_X6_keep : pw_MB m_X6_keep 1 := ⟨pw_tab 9 (by decide +kernel) rfl, pw_tab 600 (by decide +kernel) rfl, by decide +kernel, by decide⟩
abbrev m_J9_max_7cf53 : pw_Md := (yJ9_max_7cf53, RJ9, cJ9_max_7cf53, 2, some .int)
theorem mb_J9_max_7cf53 : pw_MB m_J9_max_7cf53 2 := ⟨pw_tab 14 (by decide +kernel) rfl, pw_tab 603 (by decide +kernel) rfl, by decide +kernel, by decide⟩
abbrev m_X10_group : pw_Md := (yX10_group, RX10, cX10_group, 2, some .int)
theorem mb_X10_group : pw_MB m_X10_group 1 := ⟨pw_tab 1 (by decide +kernel) rfl, pw_tab 607 (by decide +kernel) rfl, by decide +kernel, by decide⟩
abbrev m_X10_saves : pw_Md := (yX10_saves, RX10, cX10_saves, 4, some .int)
theorem mb_X10_saves : pw_MB m_X10_saves 2 := ⟨pw_tab 1 (by decide +kernel) rfl, pw_tab 611 (by decide +kernel) rfl, by decide +kernel, by decide⟩
abbrev m_X10_totalWithout : pw_Md := (yX10_totalWithout, RX10, cX10_totalWithout, 3, some .int)
theorem mb_X10_totalWithout : pw_MB m_X10_totalWithout 2 := ⟨pw_tab 1 (by decide +kernel) rfl, pw_tab 615 (by decide +kernel) rfl, by decide +kernel, by decide⟩
abbrev m_X10_best : pw_Md := (yX10_best, RX10, cX10_best, 7, some .int)
theorem mb_X10_best : pw_MB m_X10_best 1 := ⟨pw_tab 1 (by decide +kernel) rfl, pw_tab 619 (by decide +kernel) rfl, by decide +kernel, by decide⟩
abbrev m_X10_run : pw_Md := (yX10_run, RX10, cX10_run, 2, some .int)
theorem mb_X10_run : pw_MB m_X10_run 1 := ⟨pw_tab 1 (by decide +kernel) rfl, pw_tab 623 (by decide +kernel) rfl, by decide +kernel, by decide⟩
abbrev m_X9_begin : pw_Md := (yX9_begin, RX9, cX9_begin, 2, none)
theorem mb_X9_begin : pw_MB m_X9_begin 1 := ⟨pw_tab 10 (by decide +kernel) rfl, pw_tab 627 (by decide +kernel) rfl, by decide +kernel, by decide⟩
abbrev m_X9_push : pw_Md := (yX9_push, RX9, cX9_push, 3, none)
theorem mb_X9_push : pw_MB m_X9_push 2 := ⟨pw_tab 10 (by decide +kernel) rfl, pw_tab 631 (by decide +kernel) rfl, by decide +kernel, by decide⟩
abbrev m_X10_enter : pw_Md := (yX10_enter, RX10, cX10_enter, 2, some .int)
theorem mb_X10_enter : pw_MB m_X10_enter 1 := ⟨pw_tab 1 (by decide +kernel) rfl, pw_tab 636 (by decide +kernel) rfl, by decide +kernel, by decide⟩
abbrev m_X9_onTop : pw_Md := (yX9_onTop, RX9, cX9_onTop, 1, some .int)
theorem mb_X9_onTop : pw_MB m_X9_onTop 0 := ⟨pw_tab 10 (by decide +kernel) rfl, pw_tab 640 (by decide +kernel) rfl, by decide +kernel, by decide⟩
abbrev m_X9_markStep : pw_Md := (yX9_markStep, RX9, cX9_markStep, 2, none)
theorem mb_X9_markStep : pw_MB m_X9_markStep 1 := ⟨pw_tab 10 (by decide +kernel) rfl, pw_tab 644 (by decide +kernel) rfl, by decide +kernel, by decide⟩
abbrev m_X10_pushMarked : pw_Md := (yX10_pushMarked, RX10, cX10_pushMarked, 3, some .int)
theorem mb_X10_pushMarked : pw_MB m_X10_pushMarked 1 := ⟨pw_tab 1 (by decide +kernel) rfl, pw_tab 648 (by decide +kernel) rfl, by decide +kernel, by decide⟩
abbrev m_X9_howOften : pw_Md := (yX9_howOften, RX9, cX9_howOften, 4, some .int)
theorem mb_X9_howOften : pw_MB m_X9_howOften 1 := ⟨pw_tab 10 (by decide +kernel) rfl, pw_tab 652 (by decide +kernel) rfl, by decide +kernel, by decide⟩
abbrev m_X10_over : pw_Md := (yX10_over, RX10, cX10_over, 2, some .int)
theorem mb_X10_over : pw_MB m_X10_over 1 := ⟨pw_tab 1 (by decide +kernel) rfl, pw_tab 656 (by decide +kernel) rfl, by decide +kernel, by decide⟩
abbrev m_X9_pop : pw_Md := (yX9_pop, RX9, cX9_pop, 1, none)
theorem mb_X9_pop : pw_MB m_X9_pop 0 := ⟨pw_tab 10 (by decide +kernel) rfl, pw_tab 660 (by decide +kernel) rfl, by decide +kernel, by decide⟩
abbrev m_X10_leave : pw_Md := (yX10_leave, RX10, cX10_leave, 1, some .int)
theorem mb_X10_leave : pw_MB m_X10_leave 0 := ⟨pw_tab 1 (by decide +kernel) rfl, pw_tab 664 (by decide +kernel) rfl, by decide +kernel, by decide⟩
abbrev m_X10_ran : pw_Md := (yX10_ran, RX10, cX10_ran, 2, some .int)
theorem mb_X10_ran : pw_MB m_X10_ran 1 := ⟨pw_tab 1 (by decide +kernel) rfl, pw_tab 668 (by decide +kernel) rfl, by decide +kernel, by decide⟩
abbrev m_X10_stayedWithinDepth : pw_Md := (yX10_stayedWithinDepth, RX10, cX10_stayedWithinDepth, 2, some .boolean)
theorem mb_X10_stayedWithinDepth : pw_MB m_X10_stayedWithinDepth 0 := ⟨pw_tab 1 (by decide +kernel) rfl, pw_tab 672 (by decide +kernel) rfl, by decide +kernel, by decide⟩
abbrev m_X10_sheet : pw_Md := (yX10_sheet, RX10, cX10_sheet, 4, some .int)
theorem mb_X10_sheet : pw_MB m_X10_sheet 3 := ⟨pw_tab 1 (by decide +kernel) rfl, pw_tab 676 (by decide +kernel) rfl, by decide +kernel, by decide⟩
abbrev m_X10_isSheet : pw_Md := (yX10_isSheet, RX10, cX10_isSheet, 1, some .boolean)
theorem mb_X10_isSheet : pw_MB m_X10_isSheet 1 := ⟨pw_tab 1 (by decide +kernel) rfl, pw_tab 679 (by decide +kernel) rfl, by decide +kernel, by decide⟩
abbrev m_X10_isLane : pw_Md := (yX10_isLane, RX10, cX10_isLane, 1, some .boolean)
theorem mb_X10_isLane : pw_MB m_X10_isLane 1 := ⟨pw_tab 1 (by decide +kernel) rfl, pw_tab 682 (by decide +kernel) rfl, by decide +kernel, by decide⟩
abbrev m_X7_makeNew : pw_Md := (yX7_makeNew, RX7, cX7_makeNew, 4, none)
theorem mb_X7_makeNew : pw_MB m_X7_makeNew 2 := ⟨pw_tab 11 (by decide +kernel) rfl, pw_tab 686 (by decide +kernel) rfl, by decide +kernel, by decide⟩
abbrev m_X10_lay : pw_Md := (yX10_lay, RX10, cX10_lay, 5, some .int)
theorem mb_X10_lay : pw_MB m_X10_lay 3 := ⟨pw_tab 1 (by decide +kernel) rfl, pw_tab 690 (by decide +kernel) rfl, by decide +kernel, by decide⟩
abbrev m_X7_isNothing : pw_Md := (yX7_isNothing, RX7, cX7_isNothing, 1, some .boolean)
theorem mb_X7_isNothing : pw_MB m_X7_isNothing 0 := ⟨pw_tab 11 (by decide +kernel) rfl, pw_tab 694 (by decide +kernel) rfl, by decide +kernel, by decide⟩
abbrev m_X7_put : pw_Md := (yX7_put, RX7, cX7_put, 3, none)
theorem mb_X7_put : pw_MB m_X7_put 2 := ⟨pw_tab 11 (by decide +kernel) rfl, pw_tab 698 (by decide +kernel) rfl, by decide +kernel, by decide⟩
abbrev m_X10_scan : pw_Md := (yX10_scan, RX10, cX10_scan, 8, some .int)
theorem mb_X10_scan : pw_MB m_X10_scan 4 := ⟨pw_tab 1 (by decide +kernel) rfl, pw_tab 702 (by decide +kernel) rfl, by decide +kernel, by decide⟩
abbrev m_X10_addFromSheet : pw_Md := (yX10_addFromSheet, RX10, cX10_addFromSheet, 9, some .int)
theorem mb_X10_addFromSheet : pw_MB m_X10_addFromSheet 3 := ⟨pw_tab 1 (by decide +kernel) rfl, pw_tab 706 (by decide +kernel) rfl, by decide +kernel, by decide⟩
abbrev m_X7_holdsCall : pw_Md := (yX7_holdsCall, RX7, cX7_holdsCall, 3, some .boolean)
theorem mb_X7_holdsCall : pw_MB m_X7_holdsCall 2 := ⟨pw_tab 11 (by decide +kernel) rfl, pw_tab 710 (by decide +kernel) rfl, by decide +kernel, by decide⟩
abbrev m_X10_removeFromSheet : pw_Md := (yX10_removeFromSheet, RX10, cX10_removeFromSheet, 6, none)
theorem mb_X10_removeFromSheet : pw_MB m_X10_removeFromSheet 3 := ⟨pw_tab 1 (by decide +kernel) rfl, pw_tab 714 (by decide +kernel) rfl, by decide +kernel, by decide⟩
abbrev m_X10_count : pw_Md := (yX10_count, RX10, cX10_count, 2, some .int)
theorem mb_X10_count : pw_MB m_X10_count 1 := ⟨pw_tab 1 (by decide +kernel) rfl, pw_tab 718 (by decide +kernel) rfl, by decide +kernel, by decide⟩
abbrev m_X2_howManyRings : pw_Md := (yX2_howManyRings, RX2, cX2_howManyRings, 3, some .int)
theorem mb_X2_howManyRings : pw_MB m_X2_howManyRings 0 := ⟨pw_tab 5 (by decide +kernel) rfl, pw_tab 722 (by decide +kernel) rfl, by decide +kernel, by decide⟩
abbrev m_X11_init : pw_Md := (yX11_init, RX11, cX11_init, 1, none)
theorem mb_X11_init : pw_MB m_X11_init 0 := ⟨pw_tab 12 (by decide +kernel) rfl, pw_tab 727 (by decide +kernel) rfl, by decide +kernel, by decide⟩
abbrev m_X11_routine : pw_Md := (yX11_routine, RX11, cX11_routine, 2, some .int)
theorem mb_X11_routine : pw_MB m_X11_routine 1 := ⟨pw_tab 12 (by decide +kernel) rfl, pw_tab 850 (by decide +kernel) rfl, by decide +kernel, by decide⟩
abbrev m_X11_in : pw_Md := (yX11_in, RX11, cX11_in, 6, some .boolean)
theorem mb_X11_in : pw_MB m_X11_in 3 := ⟨pw_tab 12 (by decide +kernel) rfl, pw_tab 854 (by decide +kernel) rfl, by decide +kernel, by decide⟩
abbrev m_X11_frame : pw_Md := (yX11_frame, RX11, cX11_frame, 4, some .int)
theorem mb_X11_frame : pw_MB m_X11_frame 2 := ⟨pw_tab 12 (by decide +kernel) rfl, pw_tab 858 (by decide +kernel) rfl, by decide +kernel, by decide⟩
abbrev m_X11_is : pw_Md := (yX11_is, RX11, cX11_is, 2, some .boolean)
theorem mb_X11_is : pw_MB m_X11_is 1 := ⟨pw_tab 12 (by decide +kernel) rfl, pw_tab 862 (by decide +kernel) rfl, by decide +kernel, by decide⟩
abbrev m_X11_turns : pw_Md := (yX11_turns, RX11, cX11_turns, 4, some .int)
theorem mb_X11_turns : pw_MB m_X11_turns 2 := ⟨pw_tab 12 (by decide +kernel) rfl, pw_tab 866 (by decide +kernel) rfl, by decide +kernel, by decide⟩
abbrev m_X11_call : pw_Md := (yX11_call, RX11, cX11_call, 5, some .int)
theorem mb_X11_call : pw_MB m_X11_call 4 := ⟨pw_tab 12 (by decide +kernel) rfl, pw_tab 871 (by decide +kernel) rfl, by decide +kernel, by decide⟩
abbrev m_X11_sortOf : pw_Md := (yX11_sortOf, RX11, cX11_sortOf, 2, some .int)
theorem mb_X11_sortOf : pw_MB m_X11_sortOf 2 := ⟨pw_tab 12 (by decide +kernel) rfl, pw_tab 874 (by decide +kernel) rfl, by decide +kernel, by decide⟩
abbrev m_X11_called : pw_Md := (yX11_called, RX11, cX11_called, 4, some .int)
theorem mb_X11_called : pw_MB m_X11_called 3 := ⟨pw_tab 12 (by decide +kernel) rfl, pw_tab 878 (by decide +kernel) rfl, by decide +kernel, by decide⟩
abbrev m_X11_isPointer : pw_Md := (yX11_isPointer, RX11, cX11_isPointer, 1, some .boolean)
theorem mb_X11_isPointer : pw_MB m_X11_isPointer 1 := ⟨pw_tab 12 (by decide +kernel) rfl, pw_tab 882 (by decide +kernel) rfl, by decide +kernel, by decide⟩
abbrev m_X11_find : pw_Md := (yX11_find, RX11, cX11_find, 5, some .int)
theorem mb_X11_find : pw_MB m_X11_find 3 := ⟨pw_tab 12 (by decide +kernel) rfl, pw_tab 887 (by decide +kernel) rfl, by decide +kernel, by decide⟩
abbrev m_X11_cut : pw_Md := (yX11_cut, RX11, cX11_cut, 6, some .int)
theorem mb_X11_cut : pw_MB m_X11_cut 4 := ⟨pw_tab 12 (by decide +kernel) rfl, pw_tab 891 (by decide +kernel) rfl, by decide +kernel, by decide⟩
abbrev m_X11_take : pw_Md := (yX11_take, RX11, cX11_take, 3, some .int)
theorem mb_X11_take : pw_MB m_X11_take 2 := ⟨pw_tab 12 (by decide +kernel) rfl, pw_tab 895 (by decide +kernel) rfl, by decide +kernel, by decide⟩
abbrev m_X11_flow : pw_Md := (yX11_flow, RX11, cX11_flow, 3, some .int)
theorem mb_X11_flow : pw_MB m_X11_flow 2 := ⟨pw_tab 12 (by decide +kernel) rfl, pw_tab 899 (by decide +kernel) rfl, by decide +kernel, by decide⟩
abbrev m_X11_goals : pw_Md := (yX11_goals, RX11, cX11_goals, 2, some .int)
theorem mb_X11_goals : pw_MB m_X11_goals 1 := ⟨pw_tab 12 (by decide +kernel) rfl, pw_tab 903 (by decide +kernel) rfl, by decide +kernel, by decide⟩
abbrev m_X11_layGoals : pw_Md := (yX11_layGoals, RX11, cX11_layGoals, 4, none)
theorem mb_X11_layGoals : pw_MB m_X11_layGoals 0 := ⟨pw_tab 12 (by decide +kernel) rfl, pw_tab 907 (by decide +kernel) rfl, by decide +kernel, by decide⟩
abbrev m_X11_about : pw_Md := (yX11_about, RX11, cX11_about, 5, some .int)
theorem mb_X11_about : pw_MB m_X11_about 2 := ⟨pw_tab 12 (by decide +kernel) rfl, pw_tab 911 (by decide +kernel) rfl, by decide +kernel, by decide⟩
abbrev m_X11_layNet : pw_Md := (yX11_layNet, RX11, cX11_layNet, 3, none)
theorem mb_X11_layNet : pw_MB m_X11_layNet 0 := ⟨pw_tab 12 (by decide +kernel) rfl, pw_tab 916 (by decide +kernel) rfl, by decide +kernel, by decide⟩
abbrev m_X11_isRing : pw_Md := (yX11_isRing, RX11, cX11_isRing, 4, some .boolean)
theorem mb_X11_isRing : pw_MB m_X11_isRing 1 := ⟨pw_tab 12 (by decide +kernel) rfl, pw_tab 920 (by decide +kernel) rfl, by decide +kernel, by decide⟩
abbrev m_X11_leastOf : pw_Md := (yX11_leastOf, RX11, cX11_leastOf, 2, some .int)
theorem mb_X11_leastOf : pw_MB m_X11_leastOf 1 := ⟨pw_tab 12 (by decide +kernel) rfl, pw_tab 923 (by decide +kernel) rfl, by decide +kernel, by decide⟩
abbrev m_X11_sizeOf : pw_Md := (yX11_sizeOf, RX11, cX11_sizeOf, 3, some .int)
theorem mb_X11_sizeOf : pw_MB m_X11_sizeOf 1 := ⟨pw_tab 12 (by decide +kernel) rfl, pw_tab 926 (by decide +kernel) rfl, by decide +kernel, by decide⟩
abbrev m_X11_depth : pw_Md := (yX11_depth, RX11, cX11_depth, 2, some .int)
theorem mb_X11_depth : pw_MB m_X11_depth 1 := ⟨pw_tab 12 (by decide +kernel) rfl, pw_tab 930 (by decide +kernel) rfl, by decide +kernel, by decide⟩
abbrev m_X11_layDepths : pw_Md := (yX11_layDepths, RX11, cX11_layDepths, 3, none)
theorem mb_X11_layDepths : pw_MB m_X11_layDepths 0 := ⟨pw_tab 12 (by decide +kernel) rfl, pw_tab 934 (by decide +kernel) rfl, by decide +kernel, by decide⟩
abbrev m_X11_reckoned : pw_Md := (yX11_reckoned, RX11, cX11_reckoned, 8, some .int)
theorem mb_X11_reckoned : pw_MB m_X11_reckoned 1 := ⟨pw_tab 12 (by decide +kernel) rfl, pw_tab 938 (by decide +kernel) rfl, by decide +kernel, by decide⟩
abbrev m_X11_greatest : pw_Md := (yX11_greatest, RX11, cX11_greatest, 6, some .int)
theorem mb_X11_greatest : pw_MB m_X11_greatest 1 := ⟨pw_tab 12 (by decide +kernel) rfl, pw_tab 942 (by decide +kernel) rfl, by decide +kernel, by decide⟩
abbrev m_X11_own : pw_Md := (yX11_own, RX11, cX11_own, 4, some .int)
theorem mb_X11_own : pw_MB m_X11_own 1 := ⟨pw_tab 12 (by decide +kernel) rfl, pw_tab 946 (by decide +kernel) rfl, by decide +kernel, by decide⟩
abbrev m_X11_way : pw_Md := (yX11_way, RX11, cX11_way, 5, some .int)
theorem mb_X11_way : pw_MB m_X11_way 2 := ⟨pw_tab 12 (by decide +kernel) rfl, pw_tab 950 (by decide +kernel) rfl, by decide +kernel, by decide⟩
abbrev m_X11_reachesRing : pw_Md := (yX11_reachesRing, RX11, cX11_reachesRing, 4, some .boolean)
theorem mb_X11_reachesRing : pw_MB m_X11_reachesRing 1 := ⟨pw_tab 12 (by decide +kernel) rfl, pw_tab 954 (by decide +kernel) rfl, by decide +kernel, by decide⟩
abbrev m_X11_nextOf : pw_Md := (yX11_nextOf, RX11, cX11_nextOf, 3, some .int)
theorem mb_X11_nextOf : pw_MB m_X11_nextOf 1 := ⟨pw_tab 12 (by decide +kernel) rfl, pw_tab 958 (by decide +kernel) rfl, by decide +kernel, by decide⟩
abbrev m_X11_endless : pw_Md := (yX11_endless, RX11, cX11_endless, 3, some .int)
theorem mb_X11_endless : pw_MB m_X11_endless 1 := ⟨pw_tab 12 (by decide +kernel) rfl, pw_tab 962 (by decide +kernel) rfl, by decide +kernel, by decide⟩
abbrev m_X11_interrupt : pw_Md := (yX11_interrupt, RX11, cX11_interrupt, 4, some .int)
theorem mb_X11_interrupt : pw_MB m_X11_interrupt 3 := ⟨pw_tab 12 (by decide +kernel) rfl, pw_tab 966 (by decide +kernel) rfl, by decide +kernel, by decide⟩
abbrev m_X11_task : pw_Md := (yX11_task, RX11, cX11_task, 4, some .int)
theorem mb_X11_task : pw_MB m_X11_task 3 := ⟨pw_tab 12 (by decide +kernel) rfl, pw_tab 971 (by decide +kernel) rfl, by decide +kernel, by decide⟩
abbrev m_X11_total : pw_Md := (yX11_total, RX11, cX11_total, 4, some .int)
theorem mb_X11_total : pw_MB m_X11_total 2 := ⟨pw_tab 12 (by decide +kernel) rfl, pw_tab 975 (by decide +kernel) rfl, by decide +kernel, by decide⟩
abbrev m_X11_isTask : pw_Md := (yX11_isTask, RX11, cX11_isTask, 2, some .boolean)
theorem mb_X11_isTask : pw_MB m_X11_isTask 1 := ⟨pw_tab 12 (by decide +kernel) rfl, pw_tab 979 (by decide +kernel) rfl, by decide +kernel, by decide⟩
abbrev m_X11_totalOf : pw_Md := (yX11_totalOf, RX11, cX11_totalOf, 4, some .int)
theorem mb_X11_totalOf : pw_MB m_X11_totalOf 1 := ⟨pw_tab 12 (by decide +kernel) rfl, pw_tab 983 (by decide +kernel) rfl, by decide +kernel, by decide⟩
abbrev m_X11_top : pw_Md := (yX11_top, RX11, cX11_top, 7, some .int)
theorem mb_X11_top : pw_MB m_X11_top 1 := ⟨pw_tab 12 (by decide +kernel) rfl, pw_tab 987 (by decide +kernel) rfl, by decide +kernel, by decide⟩
abbrev m_X11_apart : pw_Md := (yX11_apart, RX11, cX11_apart, 5, some .int)
theorem mb_X11_apart : pw_MB m_X11_apart 3 := ⟨pw_tab 12 (by decide +kernel) rfl, pw_tab 991 (by decide +kernel) rfl, by decide +kernel, by decide⟩
abbrev m_X11_shared : pw_Md := (yX11_shared, RX11, cX11_shared, 1, some .int)
theorem mb_X11_shared : pw_MB m_X11_shared 0 := ⟨pw_tab 12 (by decide +kernel) rfl, pw_tab 995 (by decide +kernel) rfl, by decide +kernel, by decide⟩
abbrev m_X11_share : pw_Md := (yX11_share, RX11, cX11_share, 4, some .boolean)
theorem mb_X11_share : pw_MB m_X11_share 0 := ⟨pw_tab 12 (by decide +kernel) rfl, pw_tab 999 (by decide +kernel) rfl, by decide +kernel, by decide⟩
abbrev m_X11_sumOf : pw_Md := (yX11_sumOf, RX11, cX11_sumOf, 7, some .int)
theorem mb_X11_sumOf : pw_MB m_X11_sumOf 0 := ⟨pw_tab 12 (by decide +kernel) rfl, pw_tab 1003 (by decide +kernel) rfl, by decide +kernel, by decide⟩
abbrev m_X11_nextWay : pw_Md := (yX11_nextWay, RX11, cX11_nextWay, 3, some .boolean)
theorem mb_X11_nextWay : pw_MB m_X11_nextWay 0 := ⟨pw_tab 12 (by decide +kernel) rfl, pw_tab 1007 (by decide +kernel) rfl, by decide +kernel, by decide⟩
abbrev m_X11_highest : pw_Md := (yX11_highest, RX11, cX11_highest, 4, some .int)
theorem mb_X11_highest : pw_MB m_X11_highest 1 := ⟨pw_tab 12 (by decide +kernel) rfl, pw_tab 1011 (by decide +kernel) rfl, by decide +kernel, by decide⟩
abbrev m_X11_group : pw_Md := (yX11_group, RX11, cX11_group, 2, some .int)
theorem mb_X11_group : pw_MB m_X11_group 1 := ⟨pw_tab 12 (by decide +kernel) rfl, pw_tab 1015 (by decide +kernel) rfl, by decide +kernel, by decide⟩
abbrev m_X11_saves : pw_Md := (yX11_saves, RX11, cX11_saves, 3, some .int)
theorem mb_X11_saves : pw_MB m_X11_saves 2 := ⟨pw_tab 12 (by decide +kernel) rfl, pw_tab 1019 (by decide +kernel) rfl, by decide +kernel, by decide⟩
abbrev m_X11_savesOf : pw_Md := (yX11_savesOf, RX11, cX11_savesOf, 6, some .int)
theorem mb_X11_savesOf : pw_MB m_X11_savesOf 2 := ⟨pw_tab 12 (by decide +kernel) rfl, pw_tab 1023 (by decide +kernel) rfl, by decide +kernel, by decide⟩
abbrev m_X11_best : pw_Md := (yX11_best, RX11, cX11_best, 6, some .int)
theorem mb_X11_best : pw_MB m_X11_best 1 := ⟨pw_tab 12 (by decide +kernel) rfl, pw_tab 1027 (by decide +kernel) rfl, by decide +kernel, by decide⟩
abbrev m_X11_run : pw_Md := (yX11_run, RX11, cX11_run, 2, some .int)
theorem mb_X11_run : pw_MB m_X11_run 1 := ⟨pw_tab 12 (by decide +kernel) rfl, pw_tab 1031 (by decide +kernel) rfl, by decide +kernel, by decide⟩
abbrev m_X11_put : pw_Md := (yX11_put, RX11, cX11_put, 4, none)
theorem mb_X11_put : pw_MB m_X11_put 1 := ⟨pw_tab 12 (by decide +kernel) rfl, pw_tab 1035 (by decide +kernel) rfl, by decide +kernel, by decide⟩
abbrev m_X11_enter : pw_Md := (yX11_enter, RX11, cX11_enter, 2, some .int)
theorem mb_X11_enter : pw_MB m_X11_enter 1 := ⟨pw_tab 12 (by decide +kernel) rfl, pw_tab 1039 (by decide +kernel) rfl, by decide +kernel, by decide⟩
abbrev m_X11_over : pw_Md := (yX11_over, RX11, cX11_over, 2, some .int)
theorem mb_X11_over : pw_MB m_X11_over 1 := ⟨pw_tab 12 (by decide +kernel) rfl, pw_tab 1043 (by decide +kernel) rfl, by decide +kernel, by decide⟩
abbrev m_X11_pull : pw_Md := (yX11_pull, RX11, cX11_pull, 1, none)
theorem mb_X11_pull : pw_MB m_X11_pull 0 := ⟨pw_tab 12 (by decide +kernel) rfl, pw_tab 1047 (by decide +kernel) rfl, by decide +kernel, by decide⟩
abbrev m_X11_leave : pw_Md := (yX11_leave, RX11, cX11_leave, 1, some .int)
theorem mb_X11_leave : pw_MB m_X11_leave 0 := ⟨pw_tab 12 (by decide +kernel) rfl, pw_tab 1051 (by decide +kernel) rfl, by decide +kernel, by decide⟩
abbrev m_X11_ran : pw_Md := (yX11_ran, RX11, cX11_ran, 3, some .int)
theorem mb_X11_ran : pw_MB m_X11_ran 1 := ⟨pw_tab 12 (by decide +kernel) rfl, pw_tab 1055 (by decide +kernel) rfl, by decide +kernel, by decide⟩
abbrev m_X11_sheet : pw_Md := (yX11_sheet, RX11, cX11_sheet, 5, some .int)
theorem mb_X11_sheet : pw_MB m_X11_sheet 3 := ⟨pw_tab 12 (by decide +kernel) rfl, pw_tab 1060 (by decide +kernel) rfl, by decide +kernel, by decide⟩
abbrev m_X11_lay : pw_Md := (yX11_lay, RX11, cX11_lay, 4, some .int)
theorem mb_X11_lay : pw_MB m_X11_lay 3 := ⟨pw_tab 12 (by decide +kernel) rfl, pw_tab 1065 (by decide +kernel) rfl, by decide +kernel, by decide⟩
abbrev m_X11_scan : pw_Md := (yX11_scan, RX11, cX11_scan, 12, some .int)
theorem mb_X11_scan : pw_MB m_X11_scan 4 := ⟨pw_tab 12 (by decide +kernel) rfl, pw_tab 1069 (by decide +kernel) rfl, by decide +kernel, by decide⟩
abbrev m_X11_count : pw_Md := (yX11_count, RX11, cX11_count, 4, some .int)
theorem mb_X11_count : pw_MB m_X11_count 1 := ⟨pw_tab 12 (by decide +kernel) rfl, pw_tab 1073 (by decide +kernel) rfl, by decide +kernel, by decide⟩
theorem fl_X5_9 : pw_FL RX5 9 5 0 := ⟨RX5, TX5, 3, rfl, by decide, pw_tab 29 (by decide +kernel) rfl, pw_uX5⟩
theorem fl_X10_102 : pw_FL RX10 102 5 0 := ⟨RX5, TX5, 3, rfl, by decide, pw_tab 30 (by decide +kernel) rfl, pw_uX5⟩
theorem fl_X1_95 : pw_FL RX1 95 5 0 := ⟨RX5, TX5, 3, rfl, by decide, pw_tab 31 (by decide +kernel) rfl, pw_uX5⟩
theorem fl_X5_15 : pw_FL RX5 15 5 1 := ⟨RX5, TX5, 3, rfl, by decide, pw_tab 32 (by decide +kernel) rfl, pw_uX5⟩
theorem fl_X10_106 : pw_FL RX10 106 5 1 := ⟨RX5, TX5, 3, rfl, by decide, pw_tab 33 (by decide +kernel) rfl, pw_uX5⟩
theorem fl_X1_83 : pw_FL RX1 83 5 1 := ⟨RX5, TX5, 3, rfl, by decide, pw_tab 34 (by decide +kernel) rfl, pw_uX5⟩
theorem fl_X5_18 : pw_FL RX5 18 5 2 := ⟨RX5, TX5, 3, rfl, by decide, pw_tab 35 (by decide +kernel) rfl, pw_uX5⟩
theorem fp_X5_18 : pw_FP RX5 18 5 2 .int := ⟨RX5, TX5, 3, tyX5, rfl, by decide, pw_tab 35 (by decide +kernel) rfl, pw_uX5, tyX5_ok, nmX5, rfl, by decide +kernel⟩
theorem fl_X10_87 : pw_FL RX10 87 5 2 := ⟨RX5, TX5, 3, rfl, by decide, pw_tab 36 (by decide +kernel) rfl, pw_uX5⟩
theorem fp_X10_87 : pw_FP RX10 87 5 2 .int := ⟨RX5, TX5, 3, tyX5, rfl, by decide, pw_tab 36 (by decide +kernel) rfl, pw_uX5, tyX5_ok, nmX5, rfl, by decide +kernel⟩
theorem fl_X1_78 : pw_FL RX1 78 5 2 := ⟨RX5, TX5, 3, rfl, by decide, pw_tab 37 (by decide +kernel) rfl, pw_uX5⟩
theorem fp_X1_78 : pw_FP RX1 78 5 2 .int := ⟨RX5, TX5, 3, tyX5, rfl, by decide, pw_tab 37 (by decide +kernel) rfl, pw_uX5, tyX5_ok, nmX5, rfl, by decide +kernel⟩
theorem fl_X2_58 : pw_FL RX2 58 5 2 := ⟨RX5, TX5, 3, rfl, by decide, pw_tab 38 (by decide +kernel) rfl, pw_uX5⟩
theorem fp_X2_58 : pw_FP RX2 58 5 2 .int := ⟨RX5, TX5, 3, tyX5, rfl, by decide, pw_tab 38 (by decide +kernel) rfl, pw_uX5, tyX5_ok, nmX5, rfl, by decide +kernel⟩
theorem fl_X4_9 : pw_FL RX4 9 4 0 := ⟨RX4, TX4, 3, rfl, by decide, pw_tab 53 (by decide +kernel) rfl, pw_uX4⟩
theorem fl_X10_133 : pw_FL RX10 133 4 0 := ⟨RX4, TX4, 3, rfl, by decide, pw_tab 54 (by decide +kernel) rfl, pw_uX4⟩
theorem fl_X4_15 : pw_FL RX4 15 4 1 := ⟨RX4, TX4, 3, rfl, by decide, pw_tab 55 (by decide +kernel) rfl, pw_uX4⟩
theorem fl_X10_144 : pw_FL RX10 144 4 1 := ⟨RX4, TX4, 3, rfl, by decide, pw_tab 56 (by decide +kernel) rfl, pw_uX4⟩
theorem fl_X4_18 : pw_FL RX4 18 4 2 := ⟨RX4, TX4, 3, rfl, by decide, pw_tab 57 (by decide +kernel) rfl, pw_uX4⟩
theorem fl_X2_74 : pw_FL RX2 74 4 2 := ⟨RX4, TX4, 3, rfl, by decide, pw_tab 58 (by decide +kernel) rfl, pw_uX4⟩
theorem fl_X10_150 : pw_FL RX10 150 4 2 := ⟨RX4, TX4, 3, rfl, by decide, pw_tab 59 (by decide +kernel) rfl, pw_uX4⟩
theorem fl_X0_11 : pw_FL RX0 11 0 0 := ⟨RX0, TX0, 2, rfl, by decide, pw_tab 75 (by decide +kernel) rfl, pw_uX0⟩
theorem fl_X2_79 : pw_FL RX2 79 0 0 := ⟨RX0, TX0, 2, rfl, by decide, pw_tab 76 (by decide +kernel) rfl, pw_uX0⟩
theorem fl_X0_20 : pw_FL RX0 20 0 1 := ⟨RX0, TX0, 2, rfl, by decide, pw_tab 77 (by decide +kernel) rfl, pw_uX0⟩
theorem fp_X0_20 : pw_FP RX0 20 0 1 .int := ⟨RX0, TX0, 2, tyX0, rfl, by decide, pw_tab 77 (by decide +kernel) rfl, pw_uX0, tyX0_ok, nmX0, rfl, by decide +kernel⟩
theorem fl_X10_120 : pw_FL RX10 120 0 1 := ⟨RX0, TX0, 2, rfl, by decide, pw_tab 78 (by decide +kernel) rfl, pw_uX0⟩
theorem fp_X10_120 : pw_FP RX10 120 0 1 .int := ⟨RX0, TX0, 2, tyX0, rfl, by decide, pw_tab 78 (by decide +kernel) rfl, pw_uX0, tyX0_ok, nmX0, rfl, by decide +kernel⟩
theorem fl_X2_31 : pw_FL RX2 31 2 0 := ⟨RX2, TX2, 11, rfl, by decide, pw_tab 90 (by decide +kernel) rfl, pw_uX2⟩
theorem fl_X2_35 : pw_FL RX2 35 2 1 := ⟨RX2, TX2, 11, rfl, by decide, pw_tab 91 (by decide +kernel) rfl, pw_uX2⟩
theorem fl_X2_39 : pw_FL RX2 39 2 2 := ⟨RX2, TX2, 11, rfl, by decide, pw_tab 92 (by decide +kernel) rfl, pw_uX2⟩
theorem fl_X2_9 : pw_FL RX2 9 2 3 := ⟨RX2, TX2, 11, rfl, by decide, pw_tab 93 (by decide +kernel) rfl, pw_uX2⟩
theorem fp_X2_9 : pw_FP RX2 9 2 3 .boolean := ⟨RX2, TX2, 11, tyX2, rfl, by decide, pw_tab 93 (by decide +kernel) rfl, pw_uX2, tyX2_ok, nmX2, rfl, by decide +kernel⟩
theorem fl_X2_15 : pw_FL RX2 15 2 4 := ⟨RX2, TX2, 11, rfl, by decide, pw_tab 94 (by decide +kernel) rfl, pw_uX2⟩
theorem fl_X1_66 : pw_FL RX1 66 2 4 := ⟨RX2, TX2, 11, rfl, by decide, pw_tab 95 (by decide +kernel) rfl, pw_uX2⟩
theorem fl_X10_250 : pw_FL RX10 250 2 4 := ⟨RX2, TX2, 11, rfl, by decide, pw_tab 96 (by decide +kernel) rfl, pw_uX2⟩
theorem fl_X2_19 : pw_FL RX2 19 2 5 := ⟨RX2, TX2, 11, rfl, by decide, pw_tab 97 (by decide +kernel) rfl, pw_uX2⟩
theorem fl_X1_75 : pw_FL RX1 75 2 5 := ⟨RX2, TX2, 11, rfl, by decide, pw_tab 98 (by decide +kernel) rfl, pw_uX2⟩
theorem fl_X10_263 : pw_FL RX10 263 2 5 := ⟨RX2, TX2, 11, rfl, by decide, pw_tab 99 (by decide +kernel) rfl, pw_uX2⟩
theorem fl_X2_22 : pw_FL RX2 22 2 6 := ⟨RX2, TX2, 11, rfl, by decide, pw_tab 100 (by decide +kernel) rfl, pw_uX2⟩
theorem fl_X10_165 : pw_FL RX10 165 2 6 := ⟨RX2, TX2, 11, rfl, by decide, pw_tab 101 (by decide +kernel) rfl, pw_uX2⟩
theorem fl_X2_25 : pw_FL RX2 25 2 7 := ⟨RX2, TX2, 11, rfl, by decide, pw_tab 102 (by decide +kernel) rfl, pw_uX2⟩
theorem fl_X1_38 : pw_FL RX1 38 2 7 := ⟨RX2, TX2, 11, rfl, by decide, pw_tab 103 (by decide +kernel) rfl, pw_uX2⟩
theorem fl_X10_159 : pw_FL RX10 159 2 7 := ⟨RX2, TX2, 11, rfl, by decide, pw_tab 104 (by decide +kernel) rfl, pw_uX2⟩
theorem fl_X1_41 : pw_FL RX1 41 2 8 := ⟨RX2, TX2, 11, rfl, by decide, pw_tab 105 (by decide +kernel) rfl, pw_uX2⟩
theorem fp_X1_41 : pw_FP RX1 41 2 8 .int := ⟨RX2, TX2, 11, tyX2, rfl, by decide, pw_tab 105 (by decide +kernel) rfl, pw_uX2, tyX2_ok, nmX2, rfl, by decide +kernel⟩
theorem fl_X2_71 : pw_FL RX2 71 2 8 := ⟨RX2, TX2, 11, rfl, by decide, pw_tab 106 (by decide +kernel) rfl, pw_uX2⟩
theorem fp_X2_71 : pw_FP RX2 71 2 8 .int := ⟨RX2, TX2, 11, tyX2, rfl, by decide, pw_tab 106 (by decide +kernel) rfl, pw_uX2, tyX2_ok, nmX2, rfl, by decide +kernel⟩
theorem fl_X10_156 : pw_FL RX10 156 2 8 := ⟨RX2, TX2, 11, rfl, by decide, pw_tab 107 (by decide +kernel) rfl, pw_uX2⟩
theorem fp_X10_156 : pw_FP RX10 156 2 8 .int := ⟨RX2, TX2, 11, tyX2, rfl, by decide, pw_tab 107 (by decide +kernel) rfl, pw_uX2, tyX2_ok, nmX2, rfl, by decide +kernel⟩
theorem fl_X2_28 : pw_FL RX2 28 2 9 := ⟨RX2, TX2, 11, rfl, by decide, pw_tab 108 (by decide +kernel) rfl, pw_uX2⟩
theorem fl_X1_35 : pw_FL RX1 35 2 9 := ⟨RX2, TX2, 11, rfl, by decide, pw_tab 109 (by decide +kernel) rfl, pw_uX2⟩
theorem fl_X1_32 : pw_FL RX1 32 2 10 := ⟨RX2, TX2, 11, rfl, by decide, pw_tab 110 (by decide +kernel) rfl, pw_uX2⟩
theorem fp_X1_32 : pw_FP RX1 32 2 10 .int := ⟨RX2, TX2, 11, tyX2, rfl, by decide, pw_tab 110 (by decide +kernel) rfl, pw_uX2, tyX2_ok, nmX2, rfl, by decide +kernel⟩
theorem fl_X2_68 : pw_FL RX2 68 2 10 := ⟨RX2, TX2, 11, rfl, by decide, pw_tab 111 (by decide +kernel) rfl, pw_uX2⟩
theorem fp_X2_68 : pw_FP RX2 68 2 10 .int := ⟨RX2, TX2, 11, tyX2, rfl, by decide, pw_tab 111 (by decide +kernel) rfl, pw_uX2, tyX2_ok, nmX2, rfl, by decide +kernel⟩
theorem fl_X1_19 : pw_FL RX1 19 1 0 := ⟨RX1, TX1, 4, rfl, by decide, pw_tab 141 (by decide +kernel) rfl, pw_uX1⟩
theorem fl_X1_23 : pw_FL RX1 23 1 1 := ⟨RX1, TX1, 4, rfl, by decide, pw_tab 142 (by decide +kernel) rfl, pw_uX1⟩
theorem fl_X1_9 : pw_FL RX1 9 1 2 := ⟨RX1, TX1, 4, rfl, by decide, pw_tab 143 (by decide +kernel) rfl, pw_uX1⟩
theorem fp_X1_9 : pw_FP RX1 9 1 2 .int := ⟨RX1, TX1, 4, tyX1, rfl, by decide, pw_tab 143 (by decide +kernel) rfl, pw_uX1, tyX1_ok, nmX1, rfl, by decide +kernel⟩
theorem fl_X1_15 : pw_FL RX1 15 1 3 := ⟨RX1, TX1, 4, rfl, by decide, pw_tab 144 (by decide +kernel) rfl, pw_uX1⟩
theorem fl_X10_180 : pw_FL RX10 180 1 3 := ⟨RX1, TX1, 4, rfl, by decide, pw_tab 145 (by decide +kernel) rfl, pw_uX1⟩
theorem fl_X3_9 : pw_FL RX3 9 3 0 := ⟨RX3, TX3, 4, rfl, by decide, pw_tab 161 (by decide +kernel) rfl, pw_uX3⟩
theorem fl_X3_15 : pw_FL RX3 15 3 1 := ⟨RX3, TX3, 4, rfl, by decide, pw_tab 162 (by decide +kernel) rfl, pw_uX3⟩
theorem fl_X3_18 : pw_FL RX3 18 3 2 := ⟨RX3, TX3, 4, rfl, by decide, pw_tab 163 (by decide +kernel) rfl, pw_uX3⟩
theorem fl_X3_21 : pw_FL RX3 21 3 3 := ⟨RX3, TX3, 4, rfl, by decide, pw_tab 164 (by decide +kernel) rfl, pw_uX3⟩
theorem fp_X3_21 : pw_FP RX3 21 3 3 .int := ⟨RX3, TX3, 4, tyX3, rfl, by decide, pw_tab 164 (by decide +kernel) rfl, pw_uX3, tyX3_ok, nmX3, rfl, by decide +kernel⟩
theorem fl_X10_199 : pw_FL RX10 199 3 3 := ⟨RX3, TX3, 4, rfl, by decide, pw_tab 165 (by decide +kernel) rfl, pw_uX3⟩
theorem fp_X10_199 : pw_FP RX10 199 3 3 .int := ⟨RX3, TX3, 4, tyX3, rfl, by decide, pw_tab 165 (by decide +kernel) rfl, pw_uX3, tyX3_ok, nmX3, rfl, by decide +kernel⟩
theorem fl_X8_9 : pw_FL RX8 9 8 0 := ⟨RX8, TX8, 5, rfl, by decide, pw_tab 181 (by decide +kernel) rfl, pw_uX8⟩
theorem fl_X10_207 : pw_FL RX10 207 8 0 := ⟨RX8, TX8, 5, rfl, by decide, pw_tab 182 (by decide +kernel) rfl, pw_uX8⟩
theorem fl_X8_15 : pw_FL RX8 15 8 1 := ⟨RX8, TX8, 5, rfl, by decide, pw_tab 183 (by decide +kernel) rfl, pw_uX8⟩
theorem fl_X10_209 : pw_FL RX10 209 8 1 := ⟨RX8, TX8, 5, rfl, by decide, pw_tab 184 (by decide +kernel) rfl, pw_uX8⟩
theorem fl_X8_18 : pw_FL RX8 18 8 2 := ⟨RX8, TX8, 5, rfl, by decide, pw_tab 185 (by decide +kernel) rfl, pw_uX8⟩
theorem fl_X10_326 : pw_FL RX10 326 8 2 := ⟨RX8, TX8, 5, rfl, by decide, pw_tab 186 (by decide +kernel) rfl, pw_uX8⟩
theorem fl_X8_21 : pw_FL RX8 21 8 3 := ⟨RX8, TX8, 5, rfl, by decide, pw_tab 187 (by decide +kernel) rfl, pw_uX8⟩
theorem fl_X6_47 : pw_FL RX6 47 8 3 := ⟨RX8, TX8, 5, rfl, by decide, pw_tab 188 (by decide +kernel) rfl, pw_uX8⟩
theorem fl_X10_222 : pw_FL RX10 222 8 3 := ⟨RX8, TX8, 5, rfl, by decide, pw_tab 189 (by decide +kernel) rfl, pw_uX8⟩
theorem fl_X8_24 : pw_FL RX8 24 8 4 := ⟨RX8, TX8, 5, rfl, by decide, pw_tab 190 (by decide +kernel) rfl, pw_uX8⟩
theorem fp_X8_24 : pw_FP RX8 24 8 4 .int := ⟨RX8, TX8, 5, tyX8, rfl, by decide, pw_tab 190 (by decide +kernel) rfl, pw_uX8, tyX8_ok, nmX8, rfl, by decide +kernel⟩
theorem fl_X6_38 : pw_FL RX6 38 8 4 := ⟨RX8, TX8, 5, rfl, by decide, pw_tab 191 (by decide +kernel) rfl, pw_uX8⟩
theorem fp_X6_38 : pw_FP RX6 38 8 4 .int := ⟨RX8, TX8, 5, tyX8, rfl, by decide, pw_tab 191 (by decide +kernel) rfl, pw_uX8, tyX8_ok, nmX8, rfl, by decide +kernel⟩
theorem fl_X10_202 : pw_FL RX10 202 8 4 := ⟨RX8, TX8, 5, rfl, by decide, pw_tab 192 (by decide +kernel) rfl, pw_uX8⟩
theorem fp_X10_202 : pw_FP RX10 202 8 4 .int := ⟨RX8, TX8, 5, tyX8, rfl, by decide, pw_tab 192 (by decide +kernel) rfl, pw_uX8, tyX8_ok, nmX8, rfl, by decide +kernel⟩
theorem fl_X6_9 : pw_FL RX6 9 6 0 := ⟨RX6, TX6, 6, rfl, by decide, pw_tab 210 (by decide +kernel) rfl, pw_uX6⟩
theorem fl_X10_329 : pw_FL RX10 329 6 0 := ⟨RX6, TX6, 6, rfl, by decide, pw_tab 211 (by decide +kernel) rfl, pw_uX6⟩
theorem fl_X6_15 : pw_FL RX6 15 6 1 := ⟨RX6, TX6, 6, rfl, by decide, pw_tab 212 (by decide +kernel) rfl, pw_uX6⟩
theorem fl_X10_232 : pw_FL RX10 232 6 1 := ⟨RX6, TX6, 6, rfl, by decide, pw_tab 213 (by decide +kernel) rfl, pw_uX6⟩
theorem fl_X6_18 : pw_FL RX6 18 6 2 := ⟨RX6, TX6, 6, rfl, by decide, pw_tab 214 (by decide +kernel) rfl, pw_uX6⟩
theorem fl_X6_21 : pw_FL RX6 21 6 3 := ⟨RX6, TX6, 6, rfl, by decide, pw_tab 215 (by decide +kernel) rfl, pw_uX6⟩
theorem fl_X6_24 : pw_FL RX6 24 6 4 := ⟨RX6, TX6, 6, rfl, by decide, pw_tab 216 (by decide +kernel) rfl, pw_uX6⟩
theorem fl_X6_30 : pw_FL RX6 30 6 5 := ⟨RX6, TX6, 6, rfl, by decide, pw_tab 217 (by decide +kernel) rfl, pw_uX6⟩
theorem fp_X6_30 : pw_FP RX6 30 6 5 .int := ⟨RX6, TX6, 6, tyX6, rfl, by decide, pw_tab 217 (by decide +kernel) rfl, pw_uX6, tyX6_ok, nmX6, rfl, by decide +kernel⟩
theorem fl_X9_9 : pw_FL RX9 9 9 0 := ⟨RX9, TX9, 8, rfl, by decide, pw_tab 237 (by decide +kernel) rfl, pw_uX9⟩
theorem fl_X9_15 : pw_FL RX9 15 9 1 := ⟨RX9, TX9, 8, rfl, by decide, pw_tab 238 (by decide +kernel) rfl, pw_uX9⟩
theorem fl_X9_22 : pw_FL RX9 22 9 2 := ⟨RX9, TX9, 8, rfl, by decide, pw_tab 239 (by decide +kernel) rfl, pw_uX9⟩
theorem fp_X9_22 : pw_FP RX9 22 9 2 .int := ⟨RX9, TX9, 8, tyX9, rfl, by decide, pw_tab 239 (by decide +kernel) rfl, pw_uX9, tyX9_ok, nmX9, rfl, by decide +kernel⟩
theorem fl_X10_247 : pw_FL RX10 247 9 2 := ⟨RX9, TX9, 8, rfl, by decide, pw_tab 240 (by decide +kernel) rfl, pw_uX9⟩
theorem fp_X10_247 : pw_FP RX10 247 9 2 .int := ⟨RX9, TX9, 8, tyX9, rfl, by decide, pw_tab 240 (by decide +kernel) rfl, pw_uX9, tyX9_ok, nmX9, rfl, by decide +kernel⟩
theorem fl_X9_25 : pw_FL RX9 25 9 3 := ⟨RX9, TX9, 8, rfl, by decide, pw_tab 241 (by decide +kernel) rfl, pw_uX9⟩
theorem fp_X9_25 : pw_FP RX9 25 9 3 .int := ⟨RX9, TX9, 8, tyX9, rfl, by decide, pw_tab 241 (by decide +kernel) rfl, pw_uX9, tyX9_ok, nmX9, rfl, by decide +kernel⟩
theorem fl_X10_244 : pw_FL RX10 244 9 3 := ⟨RX9, TX9, 8, rfl, by decide, pw_tab 242 (by decide +kernel) rfl, pw_uX9⟩
theorem fp_X10_244 : pw_FP RX10 244 9 3 .int := ⟨RX9, TX9, 8, tyX9, rfl, by decide, pw_tab 242 (by decide +kernel) rfl, pw_uX9, tyX9_ok, nmX9, rfl, by decide +kernel⟩
theorem fl_X9_28 : pw_FL RX9 28 9 4 := ⟨RX9, TX9, 8, rfl, by decide, pw_tab 243 (by decide +kernel) rfl, pw_uX9⟩
theorem fp_X9_28 : pw_FP RX9 28 9 4 .int := ⟨RX9, TX9, 8, tyX9, rfl, by decide, pw_tab 243 (by decide +kernel) rfl, pw_uX9, tyX9_ok, nmX9, rfl, by decide +kernel⟩
theorem fl_X10_272 : pw_FL RX10 272 9 4 := ⟨RX9, TX9, 8, rfl, by decide, pw_tab 244 (by decide +kernel) rfl, pw_uX9⟩
theorem fp_X10_272 : pw_FP RX10 272 9 4 .int := ⟨RX9, TX9, 8, tyX9, rfl, by decide, pw_tab 244 (by decide +kernel) rfl, pw_uX9, tyX9_ok, nmX9, rfl, by decide +kernel⟩
theorem fl_X9_31 : pw_FL RX9 31 9 5 := ⟨RX9, TX9, 8, rfl, by decide, pw_tab 245 (by decide +kernel) rfl, pw_uX9⟩
theorem fp_X9_31 : pw_FP RX9 31 9 5 .int := ⟨RX9, TX9, 8, tyX9, rfl, by decide, pw_tab 245 (by decide +kernel) rfl, pw_uX9, tyX9_ok, nmX9, rfl, by decide +kernel⟩
theorem fl_X10_275 : pw_FL RX10 275 9 5 := ⟨RX9, TX9, 8, rfl, by decide, pw_tab 246 (by decide +kernel) rfl, pw_uX9⟩
theorem fp_X10_275 : pw_FP RX10 275 9 5 .int := ⟨RX9, TX9, 8, tyX9, rfl, by decide, pw_tab 246 (by decide +kernel) rfl, pw_uX9, tyX9_ok, nmX9, rfl, by decide +kernel⟩
theorem fl_X9_34 : pw_FL RX9 34 9 6 := ⟨RX9, TX9, 8, rfl, by decide, pw_tab 247 (by decide +kernel) rfl, pw_uX9⟩
theorem fp_X9_34 : pw_FP RX9 34 9 6 .int := ⟨RX9, TX9, 8, tyX9, rfl, by decide, pw_tab 247 (by decide +kernel) rfl, pw_uX9, tyX9_ok, nmX9, rfl, by decide +kernel⟩
theorem fl_X10_278 : pw_FL RX10 278 9 6 := ⟨RX9, TX9, 8, rfl, by decide, pw_tab 248 (by decide +kernel) rfl, pw_uX9⟩
theorem fp_X10_278 : pw_FP RX10 278 9 6 .int := ⟨RX9, TX9, 8, tyX9, rfl, by decide, pw_tab 248 (by decide +kernel) rfl, pw_uX9, tyX9_ok, nmX9, rfl, by decide +kernel⟩
theorem fl_X9_18 : pw_FL RX9 18 9 7 := ⟨RX9, TX9, 8, rfl, by decide, pw_tab 249 (by decide +kernel) rfl, pw_uX9⟩
theorem fp_X9_18 : pw_FP RX9 18 9 7 .int := ⟨RX9, TX9, 8, tyX9, rfl, by decide, pw_tab 249 (by decide +kernel) rfl, pw_uX9, tyX9_ok, nmX9, rfl, by decide +kernel⟩
theorem fl_X10_269 : pw_FL RX10 269 9 7 := ⟨RX9, TX9, 8, rfl, by decide, pw_tab 250 (by decide +kernel) rfl, pw_uX9⟩
theorem fp_X10_269 : pw_FP RX10 269 9 7 .int := ⟨RX9, TX9, 8, tyX9, rfl, by decide, pw_tab 250 (by decide +kernel) rfl, pw_uX9, tyX9_ok, nmX9, rfl, by decide +kernel⟩
theorem fl_X7_9 : pw_FL RX7 9 7 0 := ⟨RX7, TX7, 3, rfl, by decide, pw_tab 275 (by decide +kernel) rfl, pw_uX7⟩
theorem fl_X10_320 : pw_FL RX10 320 7 0 := ⟨RX7, TX7, 3, rfl, by decide, pw_tab 276 (by decide +kernel) rfl, pw_uX7⟩
theorem fl_X7_19 : pw_FL RX7 19 7 1 := ⟨RX7, TX7, 3, rfl, by decide, pw_tab 277 (by decide +kernel) rfl, pw_uX7⟩
theorem fp_X7_19 : pw_FP RX7 19 7 1 .int := ⟨RX7, TX7, 3, tyX7, rfl, by decide, pw_tab 277 (by decide +kernel) rfl, pw_uX7, tyX7_ok, nmX7, rfl, by decide +kernel⟩
theorem fl_X10_303 : pw_FL RX10 303 7 1 := ⟨RX7, TX7, 3, rfl, by decide, pw_tab 278 (by decide +kernel) rfl, pw_uX7⟩
theorem fp_X10_303 : pw_FP RX10 303 7 1 .int := ⟨RX7, TX7, 3, tyX7, rfl, by decide, pw_tab 278 (by decide +kernel) rfl, pw_uX7, tyX7_ok, nmX7, rfl, by decide +kernel⟩
theorem fl_X7_15 : pw_FL RX7 15 7 2 := ⟨RX7, TX7, 3, rfl, by decide, pw_tab 279 (by decide +kernel) rfl, pw_uX7⟩
theorem fp_X7_15 : pw_FP RX7 15 7 2 .int := ⟨RX7, TX7, 3, tyX7, rfl, by decide, pw_tab 279 (by decide +kernel) rfl, pw_uX7, tyX7_ok, nmX7, rfl, by decide +kernel⟩
theorem fl_X10_297 : pw_FL RX10 297 7 2 := ⟨RX7, TX7, 3, rfl, by decide, pw_tab 280 (by decide +kernel) rfl, pw_uX7⟩
theorem fp_X10_297 : pw_FP RX10 297 7 2 .int := ⟨RX7, TX7, 3, tyX7, rfl, by decide, pw_tab 280 (by decide +kernel) rfl, pw_uX7, tyX7_ok, nmX7, rfl, by decide +kernel⟩
theorem fl_X10_10 : pw_FL RX10 10 10 0 := ⟨RX10, TX10, 10, rfl, by decide, pw_tab 288 (by decide +kernel) rfl, pw_uX10⟩
theorem fl_X10_19 : pw_FL RX10 19 10 1 := ⟨RX10, TX10, 10, rfl, by decide, pw_tab 289 (by decide +kernel) rfl, pw_uX10⟩
theorem fl_X10_26 : pw_FL RX10 26 10 2 := ⟨RX10, TX10, 10, rfl, by decide, pw_tab 290 (by decide +kernel) rfl, pw_uX10⟩
theorem fl_X10_35 : pw_FL RX10 35 10 3 := ⟨RX10, TX10, 10, rfl, by decide, pw_tab 291 (by decide +kernel) rfl, pw_uX10⟩
theorem fl_X10_44 : pw_FL RX10 44 10 4 := ⟨RX10, TX10, 10, rfl, by decide, pw_tab 292 (by decide +kernel) rfl, pw_uX10⟩
theorem fl_X10_51 : pw_FL RX10 51 10 5 := ⟨RX10, TX10, 10, rfl, by decide, pw_tab 293 (by decide +kernel) rfl, pw_uX10⟩
theorem fl_X10_58 : pw_FL RX10 58 10 6 := ⟨RX10, TX10, 10, rfl, by decide, pw_tab 294 (by decide +kernel) rfl, pw_uX10⟩
theorem fl_X10_65 : pw_FL RX10 65 10 7 := ⟨RX10, TX10, 10, rfl, by decide, pw_tab 295 (by decide +kernel) rfl, pw_uX10⟩
theorem fl_X10_72 : pw_FL RX10 72 10 8 := ⟨RX10, TX10, 10, rfl, by decide, pw_tab 296 (by decide +kernel) rfl, pw_uX10⟩
theorem fl_X10_78 : pw_FL RX10 78 10 9 := ⟨RX10, TX10, 10, rfl, by decide, pw_tab 297 (by decide +kernel) rfl, pw_uX10⟩
theorem mv_L_13 : pw_MV RL 13 10 m_X10_routine 1 := ⟨⟨TX10, 10, rfl⟩, pw_tab 319 (by decide +kernel) rfl, pw_tab 320 (by decide +kernel) rfl, pw_tab 321 (by decide +kernel) rfl, mb_X10_routine⟩
theorem ms_X10_83 : pw_MS RX10 83 m_X10_within 3 := ⟨pw_tab 323 (by decide +kernel) rfl, pw_tab 324 (by decide +kernel) rfl, mb_X10_within⟩
theorem mv_X10_91 : pw_MV RX10 91 2 m_X2_outdate 0 := ⟨⟨TX2, 11, rfl⟩, pw_tab 326 (by decide +kernel) rfl, pw_tab 327 (by decide +kernel) rfl, pw_tab 328 (by decide +kernel) rfl, mb_X2_outdate⟩
theorem mv_X10_94 : pw_MV RX10 94 5 m_X5_add 1 := ⟨⟨TX5, 3, rfl⟩, pw_tab 330 (by decide +kernel) rfl, pw_tab 331 (by decide +kernel) rfl, pw_tab 332 (by decide +kernel) rfl, mb_X5_add⟩
theorem mv_L_18 : pw_MV RL 18 10 m_X10_frame 2 := ⟨⟨TX10, 10, rfl⟩, pw_tab 334 (by decide +kernel) rfl, pw_tab 335 (by decide +kernel) rfl, pw_tab 336 (by decide +kernel) rfl, mb_X10_frame⟩
theorem mv_X10_98 : pw_MV RX10 98 10 m_X10_isRoutine 1 := ⟨⟨TX10, 10, rfl⟩, pw_tab 338 (by decide +kernel) rfl, pw_tab 340 (by decide +kernel) rfl, pw_sel 0 (by decide +kernel) rfl, mb_X10_isRoutine⟩
theorem mv_L_23 : pw_MV RL 23 10 m_X10_turns 2 := ⟨⟨TX10, 10, rfl⟩, pw_tab 342 (by decide +kernel) rfl, pw_tab 343 (by decide +kernel) rfl, pw_tab 344 (by decide +kernel) rfl, mb_X10_turns⟩
theorem mv_L_27 : pw_MV RL 27 10 m_X10_call 4 := ⟨⟨TX10, 10, rfl⟩, pw_tab 346 (by decide +kernel) rfl, pw_tab 347 (by decide +kernel) rfl, pw_tab 348 (by decide +kernel) rfl, mb_X10_call⟩
theorem ms_X10_109 : pw_MS RX10 109 m_X10_kindOf 2 := ⟨pw_tab 350 (by decide +kernel) rfl, pw_tab 351 (by decide +kernel) rfl, mb_X10_kindOf⟩
theorem mv_X10_113 : pw_MV RX10 113 10 m_X10_refusalOfCall 3 := ⟨⟨TX10, 10, rfl⟩, pw_tab 353 (by decide +kernel) rfl, pw_tab 355 (by decide +kernel) rfl, pw_sel 1 (by decide +kernel) rfl, mb_X10_refusalOfCall⟩
theorem mv_X10_121 : pw_MV RX10 121 10 m_X10_canBeCall 3 := ⟨⟨TX10, 10, rfl⟩, pw_tab 357 (by decide +kernel) rfl, pw_tab 359 (by decide +kernel) rfl, pw_sel 2 (by decide +kernel) rfl, mb_X10_canBeCall⟩
theorem ms_X10_130 : pw_MS RX10 130 m_X10_isPointer 1 := ⟨pw_tab 361 (by decide +kernel) rfl, pw_tab 362 (by decide +kernel) rfl, mb_X10_isPointer⟩
theorem mv_X10_124 : pw_MV RX10 124 0 m_X0_has 3 := ⟨⟨TX0, 2, rfl⟩, pw_tab 364 (by decide +kernel) rfl, pw_tab 365 (by decide +kernel) rfl, pw_tab 366 (by decide +kernel) rfl, mb_X0_has⟩
theorem mn_X0_16 : pw_MN RX0 16 m_X10_holds 2 := ⟨by decide +kernel, pw_tab 369 (by decide +kernel) rfl, mb_X10_holds⟩
theorem mv_X10_117 : pw_MV RX10 117 0 m_X0_add 3 := ⟨⟨TX0, 2, rfl⟩, pw_tab 371 (by decide +kernel) rfl, pw_tab 372 (by decide +kernel) rfl, pw_tab 373 (by decide +kernel) rfl, mb_X0_add⟩
theorem mv_L_32 : pw_MV RL 32 10 m_X10_cut 4 := ⟨⟨TX10, 10, rfl⟩, pw_tab 375 (by decide +kernel) rfl, pw_tab 376 (by decide +kernel) rfl, pw_tab 377 (by decide +kernel) rfl, mb_X10_cut⟩
theorem mv_X10_127 : pw_MV RX10 127 0 m_X0_remove 3 := ⟨⟨TX0, 2, rfl⟩, pw_tab 379 (by decide +kernel) rfl, pw_tab 380 (by decide +kernel) rfl, pw_tab 381 (by decide +kernel) rfl, mb_X0_remove⟩
theorem mv_L_36 : pw_MV RL 36 10 m_X10_take 2 := ⟨⟨TX10, 10, rfl⟩, pw_tab 383 (by decide +kernel) rfl, pw_tab 384 (by decide +kernel) rfl, pw_tab 385 (by decide +kernel) rfl, mb_X10_take⟩
theorem ms_X10_136 : pw_MS RX10 136 m_X10_holds 2 := ⟨pw_tab 387 (by decide +kernel) rfl, pw_tab 369 (by decide +kernel) rfl, mb_X10_holds⟩
theorem mv_X10_140 : pw_MV RX10 140 4 m_X4_addTaken 2 := ⟨⟨TX4, 3, rfl⟩, pw_tab 388 (by decide +kernel) rfl, pw_tab 389 (by decide +kernel) rfl, pw_tab 390 (by decide +kernel) rfl, mb_X4_addTaken⟩
theorem mv_X4_21 : pw_MV RX4 21 4 m_X4_spreadGoals 0 := ⟨⟨TX4, 3, rfl⟩, pw_tab 392 (by decide +kernel) rfl, pw_tab 394 (by decide +kernel) rfl, pw_sel 3 (by decide +kernel) rfl, mb_X4_spreadGoals⟩
theorem ms_X4_24 : pw_MS RX4 24 m_X4_unionOf 2 := ⟨pw_tab 396 (by decide +kernel) rfl, pw_tab 397 (by decide +kernel) rfl, mb_X4_unionOf⟩
theorem mn_X4_28 : pw_MN RX4 28 m_X10_holds 2 := ⟨by decide +kernel, pw_tab 369 (by decide +kernel) rfl, mb_X10_holds⟩
theorem mv_L_40 : pw_MV RL 40 10 m_X10_flow 2 := ⟨⟨TX10, 10, rfl⟩, pw_tab 400 (by decide +kernel) rfl, pw_tab 401 (by decide +kernel) rfl, pw_tab 402 (by decide +kernel) rfl, mb_X10_flow⟩
theorem mv_X10_147 : pw_MV RX10 147 4 m_X4_addSource 2 := ⟨⟨TX4, 3, rfl⟩, pw_tab 404 (by decide +kernel) rfl, pw_tab 405 (by decide +kernel) rfl, pw_tab 406 (by decide +kernel) rfl, mb_X4_addSource⟩
theorem mv_L_44 : pw_MV RL 44 10 m_X10_goals 1 := ⟨⟨TX10, 10, rfl⟩, pw_tab 408 (by decide +kernel) rfl, pw_tab 409 (by decide +kernel) rfl, pw_tab 410 (by decide +kernel) rfl, mb_X10_goals⟩
theorem mv_L_48 : pw_MV RL 48 10 m_X10_about 2 := ⟨⟨TX10, 10, rfl⟩, pw_tab 412 (by decide +kernel) rfl, pw_tab 413 (by decide +kernel) rfl, pw_tab 414 (by decide +kernel) rfl, mb_X10_about⟩
theorem mv_X10_153 : pw_MV RX10 153 2 m_X2_refresh 0 := ⟨⟨TX2, 11, rfl⟩, pw_tab 416 (by decide +kernel) rfl, pw_tab 417 (by decide +kernel) rfl, pw_tab 418 (by decide +kernel) rfl, mb_X2_refresh⟩
theorem mv_X2_43 : pw_MV RX2 43 2 m_X2_drawCalls 0 := ⟨⟨TX2, 11, rfl⟩, pw_tab 420 (by decide +kernel) rfl, pw_tab 422 (by decide +kernel) rfl, pw_sel 4 (by decide +kernel) rfl, mb_X2_drawCalls⟩
theorem ms_X2_85 : pw_MS RX2 85 m_X4_unionOf 2 := ⟨pw_tab 424 (by decide +kernel) rfl, pw_tab 397 (by decide +kernel) rfl, mb_X4_unionOf⟩
theorem mv_X2_46 : pw_MV RX2 46 2 m_X2_closeReach 0 := ⟨⟨TX2, 11, rfl⟩, pw_tab 425 (by decide +kernel) rfl, pw_tab 427 (by decide +kernel) rfl, pw_sel 5 (by decide +kernel) rfl, mb_X2_closeReach⟩
theorem mn_X2_64 : pw_MN RX2 64 m_X10_holds 2 := ⟨by decide +kernel, pw_tab 369 (by decide +kernel) rfl, mb_X10_holds⟩
theorem mv_X2_49 : pw_MV RX2 49 2 m_X2_gatherTogether 0 := ⟨⟨TX2, 11, rfl⟩, pw_tab 430 (by decide +kernel) rfl, pw_tab 432 (by decide +kernel) rfl, pw_sel 6 (by decide +kernel) rfl, mb_X2_gatherTogether⟩
theorem mv_X2_52 : pw_MV RX2 52 2 m_X2_markRings 0 := ⟨⟨TX2, 11, rfl⟩, pw_tab 434 (by decide +kernel) rfl, pw_tab 436 (by decide +kernel) rfl, pw_sel 7 (by decide +kernel) rfl, mb_X2_markRings⟩
theorem mv_X2_55 : pw_MV RX2 55 2 m_X2_orderLeaders 0 := ⟨⟨TX2, 11, rfl⟩, pw_tab 438 (by decide +kernel) rfl, pw_tab 440 (by decide +kernel) rfl, pw_sel 8 (by decide +kernel) rfl, mb_X2_orderLeaders⟩
theorem mn_X2_89 : pw_MN RX2 89 m_X10_leastOf 1 := ⟨by decide +kernel, pw_tab 443 (by decide +kernel) rfl, mb_X10_leastOf⟩
theorem mv_X2_93 : pw_MV RX2 93 2 m_X2_selfAndReached 1 := ⟨⟨TX2, 11, rfl⟩, pw_tab 445 (by decide +kernel) rfl, pw_tab 446 (by decide +kernel) rfl, pw_tab 447 (by decide +kernel) rfl, mb_X2_selfAndReached⟩
theorem ms_X2_96 : pw_MS RX2 96 m_J6_bitCount_0f7a4 1 := ⟨pw_tab 449 (by decide +kernel) rfl, pw_tab 450 (by decide +kernel) rfl, mb_J6_bitCount_0f7a4⟩
theorem k_J6_265 : Jvm.Cond.constant RJ6 265 (1431655765) ∈ pw_ws := pw_tab 452 (by decide +kernel) rfl
theorem k_J6_266 : Jvm.Cond.constant RJ6 266 (858993459) ∈ pw_ws := pw_tab 453 (by decide +kernel) rfl
theorem k_J6_267 : Jvm.Cond.constant RJ6 267 (252645135) ∈ pw_ws := pw_tab 454 (by decide +kernel) rfl
theorem ms_X10_162 : pw_MS RX10 162 m_X10_leastOf 1 := ⟨pw_tab 455 (by decide +kernel) rfl, pw_tab 443 (by decide +kernel) rfl, mb_X10_leastOf⟩
theorem ms_X10_168 : pw_MS RX10 168 m_J6_bitCount_0f7a4 1 := ⟨pw_tab 456 (by decide +kernel) rfl, pw_tab 450 (by decide +kernel) rfl, mb_J6_bitCount_0f7a4⟩
theorem mv_X10_173 : pw_MV RX10 173 2 m_X2_howManyReach 1 := ⟨⟨TX2, 11, rfl⟩, pw_tab 457 (by decide +kernel) rfl, pw_tab 458 (by decide +kernel) rfl, pw_tab 459 (by decide +kernel) rfl, mb_X2_howManyReach⟩
theorem mv_L_52 : pw_MV RL 52 10 m_X10_depth 1 := ⟨⟨TX10, 10, rfl⟩, pw_tab 461 (by decide +kernel) rfl, pw_tab 462 (by decide +kernel) rfl, pw_tab 463 (by decide +kernel) rfl, mb_X10_depth⟩
theorem mv_X10_176 : pw_MV RX10 176 1 m_X1_measure 1 := ⟨⟨TX1, 4, rfl⟩, pw_tab 465 (by decide +kernel) rfl, pw_tab 466 (by decide +kernel) rfl, pw_tab 467 (by decide +kernel) rfl, mb_X1_measure⟩
theorem mv_X1_27 : pw_MV RX1 27 2 m_X2_refresh 0 := ⟨⟨TX2, 11, rfl⟩, pw_tab 469 (by decide +kernel) rfl, pw_tab 417 (by decide +kernel) rfl, pw_tab 418 (by decide +kernel) rfl, mb_X2_refresh⟩
theorem mn_X1_44 : pw_MN RX1 44 m_X10_holds 2 := ⟨by decide +kernel, pw_tab 369 (by decide +kernel) rfl, mb_X10_holds⟩
theorem mv_X1_48 : pw_MV RX1 48 1 m_X1_depthOfRing 1 := ⟨⟨TX1, 4, rfl⟩, pw_tab 471 (by decide +kernel) rfl, pw_tab 473 (by decide +kernel) rfl, pw_sel 9 (by decide +kernel) rfl, mb_X1_depthOfRing⟩
theorem mv_X1_69 : pw_MV RX1 69 1 m_X1_frameOf 1 := ⟨⟨TX1, 4, rfl⟩, pw_tab 475 (by decide +kernel) rfl, pw_tab 477 (by decide +kernel) rfl, pw_sel 10 (by decide +kernel) rfl, mb_X1_frameOf⟩
theorem mv_X1_86 : pw_MV RX1 86 1 m_X1_greatestOf 1 := ⟨⟨TX1, 4, rfl⟩, pw_tab 479 (by decide +kernel) rfl, pw_tab 481 (by decide +kernel) rfl, pw_sel 11 (by decide +kernel) rfl, mb_X1_greatestOf⟩
theorem mn_X1_89 : pw_MN RX1 89 m_X10_greater 2 := ⟨by decide +kernel, pw_tab 484 (by decide +kernel) rfl, mb_X10_greater⟩
theorem mn_X1_92 : pw_MN RX1 92 m_X10_plus 2 := ⟨by decide +kernel, pw_tab 487 (by decide +kernel) rfl, mb_X10_plus⟩
theorem mv_X1_52 : pw_MV RX1 52 1 m_X1_depthOfTails 1 := ⟨⟨TX1, 4, rfl⟩, pw_tab 489 (by decide +kernel) rfl, pw_tab 491 (by decide +kernel) rfl, pw_sel 12 (by decide +kernel) rfl, mb_X1_depthOfTails⟩
theorem mv_X1_59 : pw_MV RX1 59 1 m_X1_depthOfItself 1 := ⟨⟨TX1, 4, rfl⟩, pw_tab 493 (by decide +kernel) rfl, pw_tab 495 (by decide +kernel) rfl, pw_sel 13 (by decide +kernel) rfl, mb_X1_depthOfItself⟩
theorem mv_X1_55 : pw_MV RX1 55 1 m_X1_spread 2 := ⟨⟨TX1, 4, rfl⟩, pw_tab 497 (by decide +kernel) rfl, pw_tab 499 (by decide +kernel) rfl, pw_sel 14 (by decide +kernel) rfl, mb_X1_spread⟩
theorem mv_L_56 : pw_MV RL 56 10 m_X10_way 2 := ⟨⟨TX10, 10, rfl⟩, pw_tab 501 (by decide +kernel) rfl, pw_tab 502 (by decide +kernel) rfl, pw_tab 503 (by decide +kernel) rfl, mb_X10_way⟩
theorem mv_X10_183 : pw_MV RX10 183 2 m_X2_selfAndReached 1 := ⟨⟨TX2, 11, rfl⟩, pw_tab 505 (by decide +kernel) rfl, pw_tab 446 (by decide +kernel) rfl, pw_tab 447 (by decide +kernel) rfl, mb_X2_selfAndReached⟩
theorem ms_X10_186 : pw_MS RX10 186 m_J9_min_7cf53 2 := ⟨pw_tab 506 (by decide +kernel) rfl, pw_tab 507 (by decide +kernel) rfl, mb_J9_min_7cf53⟩
theorem mv_X10_192 : pw_MV RX10 192 1 m_X1_nextOnWay 1 := ⟨⟨TX1, 4, rfl⟩, pw_tab 509 (by decide +kernel) rfl, pw_tab 510 (by decide +kernel) rfl, pw_tab 511 (by decide +kernel) rfl, mb_X1_nextOnWay⟩
theorem mv_X1_62 : pw_MV RX1 62 1 m_X1_leastThatTells 2 := ⟨⟨TX1, 4, rfl⟩, pw_tab 513 (by decide +kernel) rfl, pw_tab 515 (by decide +kernel) rfl, pw_sel 15 (by decide +kernel) rfl, mb_X1_leastThatTells⟩
theorem mv_X1_72 : pw_MV RX1 72 1 m_X1_leastThatHas 2 := ⟨⟨TX1, 4, rfl⟩, pw_tab 517 (by decide +kernel) rfl, pw_tab 519 (by decide +kernel) rfl, pw_sel 16 (by decide +kernel) rfl, mb_X1_leastThatHas⟩
theorem mv_L_60 : pw_MV RL 60 10 m_X10_endless 1 := ⟨⟨TX10, 10, rfl⟩, pw_tab 521 (by decide +kernel) rfl, pw_tab 522 (by decide +kernel) rfl, pw_tab 523 (by decide +kernel) rfl, mb_X10_endless⟩
theorem mv_X10_195 : pw_MV RX10 195 5 m_X5_withoutTurns 0 := ⟨⟨TX5, 3, rfl⟩, pw_tab 525 (by decide +kernel) rfl, pw_tab 526 (by decide +kernel) rfl, pw_tab 527 (by decide +kernel) rfl, mb_X5_withoutTurns⟩
theorem mv_L_64 : pw_MV RL 64 10 m_X10_interrupt 3 := ⟨⟨TX10, 10, rfl⟩, pw_tab 529 (by decide +kernel) rfl, pw_tab 530 (by decide +kernel) rfl, pw_tab 531 (by decide +kernel) rfl, mb_X10_interrupt⟩
theorem mv_X10_200 : pw_MV RX10 200 3 m_X3_add 3 := ⟨⟨TX3, 4, rfl⟩, pw_tab 533 (by decide +kernel) rfl, pw_tab 534 (by decide +kernel) rfl, pw_tab 535 (by decide +kernel) rfl, mb_X3_add⟩
theorem mv_L_69 : pw_MV RL 69 10 m_X10_task 3 := ⟨⟨TX10, 10, rfl⟩, pw_tab 537 (by decide +kernel) rfl, pw_tab 538 (by decide +kernel) rfl, pw_tab 539 (by decide +kernel) rfl, mb_X10_task⟩
theorem mv_X10_203 : pw_MV RX10 203 8 m_X8_add 3 := ⟨⟨TX8, 5, rfl⟩, pw_tab 541 (by decide +kernel) rfl, pw_tab 542 (by decide +kernel) rfl, pw_tab 543 (by decide +kernel) rfl, mb_X8_add⟩
theorem mv_L_73 : pw_MV RL 73 10 m_X10_total 2 := ⟨⟨TX10, 10, rfl⟩, pw_tab 545 (by decide +kernel) rfl, pw_tab 546 (by decide +kernel) rfl, pw_tab 547 (by decide +kernel) rfl, mb_X10_total⟩
theorem mv_X10_204 : pw_MV RX10 204 10 m_X10_isTask 1 := ⟨⟨TX10, 10, rfl⟩, pw_tab 549 (by decide +kernel) rfl, pw_tab 551 (by decide +kernel) rfl, pw_sel 17 (by decide +kernel) rfl, mb_X10_isTask⟩
theorem mv_X10_212 : pw_MV RX10 212 3 m_X3_topAbove 2 := ⟨⟨TX3, 4, rfl⟩, pw_tab 553 (by decide +kernel) rfl, pw_tab 554 (by decide +kernel) rfl, pw_tab 555 (by decide +kernel) rfl, mb_X3_topAbove⟩
theorem mv_X3_25 : pw_MV RX3 25 3 m_X3_greatestAt 2 := ⟨⟨TX3, 4, rfl⟩, pw_tab 557 (by decide +kernel) rfl, pw_tab 559 (by decide +kernel) rfl, pw_sel 18 (by decide +kernel) rfl, mb_X3_greatestAt⟩
theorem mn_X3_29 : pw_MN RX3 29 m_X10_plus 2 := ⟨by decide +kernel, pw_tab 487 (by decide +kernel) rfl, mb_X10_plus⟩
theorem mn_X3_33 : pw_MN RX3 33 m_X10_greater 2 := ⟨by decide +kernel, pw_tab 484 (by decide +kernel) rfl, mb_X10_greater⟩
theorem mv_X10_216 : pw_MV RX10 216 10 m_X10_totalAsMeasured 1 := ⟨⟨TX10, 10, rfl⟩, pw_tab 563 (by decide +kernel) rfl, pw_tab 565 (by decide +kernel) rfl, pw_sel 19 (by decide +kernel) rfl, mb_X10_totalAsMeasured⟩
theorem ms_X10_323 : pw_MS RX10 323 m_X10_plus 2 := ⟨pw_tab 567 (by decide +kernel) rfl, pw_tab 487 (by decide +kernel) rfl, mb_X10_plus⟩
theorem mv_X10_219 : pw_MV RX10 219 10 m_X10_roomAsMeasured 1 := ⟨⟨TX10, 10, rfl⟩, pw_tab 568 (by decide +kernel) rfl, pw_tab 570 (by decide +kernel) rfl, pw_sel 20 (by decide +kernel) rfl, mb_X10_roomAsMeasured⟩
theorem mv_L_77 : pw_MV RL 77 10 m_X10_apart 3 := ⟨⟨TX10, 10, rfl⟩, pw_tab 572 (by decide +kernel) rfl, pw_tab 573 (by decide +kernel) rfl, pw_tab 574 (by decide +kernel) rfl, mb_X10_apart⟩
theorem mv_X10_225 : pw_MV RX10 225 8 m_X8_setApart 3 := ⟨⟨TX8, 5, rfl⟩, pw_tab 576 (by decide +kernel) rfl, pw_tab 577 (by decide +kernel) rfl, pw_tab 578 (by decide +kernel) rfl, mb_X8_setApart⟩
theorem mv_L_82 : pw_MV RL 82 10 m_X10_shared 0 := ⟨⟨TX10, 10, rfl⟩, pw_tab 580 (by decide +kernel) rfl, pw_tab 581 (by decide +kernel) rfl, pw_tab 582 (by decide +kernel) rfl, mb_X10_shared⟩
theorem mv_X10_229 : pw_MV RX10 229 10 m_X10_shareRooms 0 := ⟨⟨TX10, 10, rfl⟩, pw_tab 584 (by decide +kernel) rfl, pw_tab 586 (by decide +kernel) rfl, pw_sel 21 (by decide +kernel) rfl, mb_X10_shareRooms⟩
theorem mv_X10_332 : pw_MV RX10 332 6 m_X6_divide 1 := ⟨⟨TX6, 6, rfl⟩, pw_tab 588 (by decide +kernel) rfl, pw_tab 589 (by decide +kernel) rfl, pw_tab 590 (by decide +kernel) rfl, mb_X6_divide⟩
theorem k_X6_29 : Jvm.Cond.constant RX6 29 (2147483647) ∈ pw_ws := pw_tab 592 (by decide +kernel) rfl
theorem mv_X6_34 : pw_MV RX6 34 6 m_X6_place 4 := ⟨⟨TX6, 6, rfl⟩, pw_tab 593 (by decide +kernel) rfl, pw_tab 595 (by decide +kernel) rfl, pw_sel 22 (by decide +kernel) rfl, mb_X6_place⟩
theorem mv_X6_43 : pw_MV RX6 43 6 m_X6_keep 1 := ⟨⟨TX6, 6, rfl⟩, pw_tab 597 (by decide +kernel) rfl, pw_tab 599 (by decide +kernel) rfl, pw_sel 23 (by decide +kernel) rfl, mb_X6_keep⟩
theorem ms_X6_50 : pw_MS RX6 50 m_J9_max_7cf53 2 := ⟨pw_tab 601 (by decide +kernel) rfl, pw_tab 602 (by decide +kernel) rfl, mb_J9_max_7cf53⟩
theorem mv_L_87 : pw_MV RL 87 10 m_X10_group 1 := ⟨⟨TX10, 10, rfl⟩, pw_tab 604 (by decide +kernel) rfl, pw_tab 605 (by decide +kernel) rfl, pw_tab 606 (by decide +kernel) rfl, mb_X10_group⟩
theorem mv_L_91 : pw_MV RL 91 10 m_X10_saves 2 := ⟨⟨TX10, 10, rfl⟩, pw_tab 608 (by decide +kernel) rfl, pw_tab 609 (by decide +kernel) rfl, pw_tab 610 (by decide +kernel) rfl, mb_X10_saves⟩
theorem mv_X10_235 : pw_MV RX10 235 10 m_X10_totalWithout 2 := ⟨⟨TX10, 10, rfl⟩, pw_tab 612 (by decide +kernel) rfl, pw_tab 614 (by decide +kernel) rfl, pw_sel 24 (by decide +kernel) rfl, mb_X10_totalWithout⟩
theorem mv_L_95 : pw_MV RL 95 10 m_X10_best 1 := ⟨⟨TX10, 10, rfl⟩, pw_tab 616 (by decide +kernel) rfl, pw_tab 617 (by decide +kernel) rfl, pw_tab 618 (by decide +kernel) rfl, mb_X10_best⟩
theorem mv_L_99 : pw_MV RL 99 10 m_X10_run 1 := ⟨⟨TX10, 10, rfl⟩, pw_tab 620 (by decide +kernel) rfl, pw_tab 621 (by decide +kernel) rfl, pw_tab 622 (by decide +kernel) rfl, mb_X10_run⟩
theorem mv_X10_238 : pw_MV RX10 238 9 m_X9_begin 1 := ⟨⟨TX9, 8, rfl⟩, pw_tab 624 (by decide +kernel) rfl, pw_tab 625 (by decide +kernel) rfl, pw_tab 626 (by decide +kernel) rfl, mb_X9_begin⟩
theorem mv_X10_241 : pw_MV RX10 241 9 m_X9_push 2 := ⟨⟨TX9, 8, rfl⟩, pw_tab 628 (by decide +kernel) rfl, pw_tab 629 (by decide +kernel) rfl, pw_tab 630 (by decide +kernel) rfl, mb_X9_push⟩
theorem ms_X9_37 : pw_MS RX9 37 m_J9_max_7cf53 2 := ⟨pw_tab 632 (by decide +kernel) rfl, pw_tab 602 (by decide +kernel) rfl, mb_J9_max_7cf53⟩
theorem mv_L_103 : pw_MV RL 103 10 m_X10_enter 1 := ⟨⟨TX10, 10, rfl⟩, pw_tab 633 (by decide +kernel) rfl, pw_tab 634 (by decide +kernel) rfl, pw_tab 635 (by decide +kernel) rfl, mb_X10_enter⟩
theorem mv_X10_253 : pw_MV RX10 253 9 m_X9_onTop 0 := ⟨⟨TX9, 8, rfl⟩, pw_tab 637 (by decide +kernel) rfl, pw_tab 638 (by decide +kernel) rfl, pw_tab 639 (by decide +kernel) rfl, mb_X9_onTop⟩
theorem mv_X10_256 : pw_MV RX10 256 9 m_X9_markStep 1 := ⟨⟨TX9, 8, rfl⟩, pw_tab 641 (by decide +kernel) rfl, pw_tab 642 (by decide +kernel) rfl, pw_tab 643 (by decide +kernel) rfl, mb_X9_markStep⟩
theorem mv_X10_260 : pw_MV RX10 260 10 m_X10_pushMarked 1 := ⟨⟨TX10, 10, rfl⟩, pw_tab 645 (by decide +kernel) rfl, pw_tab 647 (by decide +kernel) rfl, pw_sel 25 (by decide +kernel) rfl, mb_X10_pushMarked⟩
theorem mv_X10_336 : pw_MV RX10 336 9 m_X9_howOften 1 := ⟨⟨TX9, 8, rfl⟩, pw_tab 649 (by decide +kernel) rfl, pw_tab 650 (by decide +kernel) rfl, pw_tab 651 (by decide +kernel) rfl, mb_X9_howOften⟩
theorem mv_L_107 : pw_MV RL 107 10 m_X10_over 1 := ⟨⟨TX10, 10, rfl⟩, pw_tab 653 (by decide +kernel) rfl, pw_tab 654 (by decide +kernel) rfl, pw_tab 655 (by decide +kernel) rfl, mb_X10_over⟩
theorem mv_X10_266 : pw_MV RX10 266 9 m_X9_pop 0 := ⟨⟨TX9, 8, rfl⟩, pw_tab 657 (by decide +kernel) rfl, pw_tab 658 (by decide +kernel) rfl, pw_tab 659 (by decide +kernel) rfl, mb_X9_pop⟩
theorem mv_L_111 : pw_MV RL 111 10 m_X10_leave 0 := ⟨⟨TX10, 10, rfl⟩, pw_tab 661 (by decide +kernel) rfl, pw_tab 662 (by decide +kernel) rfl, pw_tab 663 (by decide +kernel) rfl, mb_X10_leave⟩
theorem mv_L_115 : pw_MV RL 115 10 m_X10_ran 1 := ⟨⟨TX10, 10, rfl⟩, pw_tab 665 (by decide +kernel) rfl, pw_tab 666 (by decide +kernel) rfl, pw_tab 667 (by decide +kernel) rfl, mb_X10_ran⟩
theorem mv_X10_281 : pw_MV RX10 281 10 m_X10_stayedWithinDepth 0 := ⟨⟨TX10, 10, rfl⟩, pw_tab 669 (by decide +kernel) rfl, pw_tab 671 (by decide +kernel) rfl, pw_sel 26 (by decide +kernel) rfl, mb_X10_stayedWithinDepth⟩
theorem mv_L_119 : pw_MV RL 119 10 m_X10_sheet 3 := ⟨⟨TX10, 10, rfl⟩, pw_tab 673 (by decide +kernel) rfl, pw_tab 674 (by decide +kernel) rfl, pw_tab 675 (by decide +kernel) rfl, mb_X10_sheet⟩
theorem ms_X10_285 : pw_MS RX10 285 m_X10_isSheet 1 := ⟨pw_tab 677 (by decide +kernel) rfl, pw_tab 678 (by decide +kernel) rfl, mb_X10_isSheet⟩
theorem ms_X10_288 : pw_MS RX10 288 m_X10_isLane 1 := ⟨pw_tab 680 (by decide +kernel) rfl, pw_tab 681 (by decide +kernel) rfl, mb_X10_isLane⟩
theorem mv_X10_291 : pw_MV RX10 291 7 m_X7_makeNew 2 := ⟨⟨TX7, 3, rfl⟩, pw_tab 683 (by decide +kernel) rfl, pw_tab 684 (by decide +kernel) rfl, pw_tab 685 (by decide +kernel) rfl, mb_X7_makeNew⟩
theorem mv_L_123 : pw_MV RL 123 10 m_X10_lay 3 := ⟨⟨TX10, 10, rfl⟩, pw_tab 687 (by decide +kernel) rfl, pw_tab 688 (by decide +kernel) rfl, pw_tab 689 (by decide +kernel) rfl, mb_X10_lay⟩
theorem mv_X10_294 : pw_MV RX10 294 7 m_X7_isNothing 0 := ⟨⟨TX7, 3, rfl⟩, pw_tab 691 (by decide +kernel) rfl, pw_tab 692 (by decide +kernel) rfl, pw_tab 693 (by decide +kernel) rfl, mb_X7_isNothing⟩
theorem mv_X10_300 : pw_MV RX10 300 7 m_X7_put 2 := ⟨⟨TX7, 3, rfl⟩, pw_tab 695 (by decide +kernel) rfl, pw_tab 696 (by decide +kernel) rfl, pw_tab 697 (by decide +kernel) rfl, mb_X7_put⟩
theorem mv_L_127 : pw_MV RL 127 10 m_X10_scan 4 := ⟨⟨TX10, 10, rfl⟩, pw_tab 699 (by decide +kernel) rfl, pw_tab 700 (by decide +kernel) rfl, pw_tab 701 (by decide +kernel) rfl, mb_X10_scan⟩
theorem mv_X10_306 : pw_MV RX10 306 10 m_X10_addFromSheet 3 := ⟨⟨TX10, 10, rfl⟩, pw_tab 703 (by decide +kernel) rfl, pw_tab 705 (by decide +kernel) rfl, pw_sel 27 (by decide +kernel) rfl, mb_X10_addFromSheet⟩
theorem mv_X10_317 : pw_MV RX10 317 7 m_X7_holdsCall 2 := ⟨⟨TX7, 3, rfl⟩, pw_tab 707 (by decide +kernel) rfl, pw_tab 708 (by decide +kernel) rfl, pw_tab 709 (by decide +kernel) rfl, mb_X7_holdsCall⟩
theorem mv_X10_310 : pw_MV RX10 310 10 m_X10_removeFromSheet 3 := ⟨⟨TX10, 10, rfl⟩, pw_tab 711 (by decide +kernel) rfl, pw_tab 713 (by decide +kernel) rfl, pw_sel 28 (by decide +kernel) rfl, mb_X10_removeFromSheet⟩
theorem mv_L_132 : pw_MV RL 132 10 m_X10_count 1 := ⟨⟨TX10, 10, rfl⟩, pw_tab 715 (by decide +kernel) rfl, pw_tab 716 (by decide +kernel) rfl, pw_tab 717 (by decide +kernel) rfl, mb_X10_count⟩
theorem mv_X10_314 : pw_MV RX10 314 2 m_X2_howManyRings 0 := ⟨⟨TX2, 11, rfl⟩, pw_tab 719 (by decide +kernel) rfl, pw_tab 720 (by decide +kernel) rfl, pw_tab 721 (by decide +kernel) rfl, mb_X2_howManyRings⟩
theorem fl_X11_91 : pw_FL RX11 91 11 0 := ⟨RX11, TX11, 39, rfl, by decide, pw_tab 729 (by decide +kernel) rfl, pw_uX11⟩
theorem fp_X11_91 : pw_FP RX11 91 11 0 .int := ⟨RX11, TX11, 39, tyX11, rfl, by decide, pw_tab 729 (by decide +kernel) rfl, pw_uX11, tyX11_ok, nmX11, rfl, by decide +kernel⟩
theorem fl_X11_7 : pw_FL RX11 7 11 1 := ⟨RX11, TX11, 39, rfl, by decide, pw_tab 730 (by decide +kernel) rfl, pw_uX11⟩
theorem fl_X11_13 : pw_FL RX11 13 11 2 := ⟨RX11, TX11, 39, rfl, by decide, pw_tab 731 (by decide +kernel) rfl, pw_uX11⟩
theorem fl_X11_109 : pw_FL RX11 109 11 3 := ⟨RX11, TX11, 39, rfl, by decide, pw_tab 732 (by decide +kernel) rfl, pw_uX11⟩
theorem fp_X11_109 : pw_FP RX11 109 11 3 .int := ⟨RX11, TX11, 39, tyX11, rfl, by decide, pw_tab 732 (by decide +kernel) rfl, pw_uX11, tyX11_ok, nmX11, rfl, by decide +kernel⟩
theorem fl_X11_16 : pw_FL RX11 16 11 4 := ⟨RX11, TX11, 39, rfl, by decide, pw_tab 733 (by decide +kernel) rfl, pw_uX11⟩
theorem fl_X11_19 : pw_FL RX11 19 11 5 := ⟨RX11, TX11, 39, rfl, by decide, pw_tab 734 (by decide +kernel) rfl, pw_uX11⟩
theorem fl_X11_22 : pw_FL RX11 22 11 6 := ⟨RX11, TX11, 39, rfl, by decide, pw_tab 735 (by decide +kernel) rfl, pw_uX11⟩
theorem fl_X11_25 : pw_FL RX11 25 11 7 := ⟨RX11, TX11, 39, rfl, by decide, pw_tab 736 (by decide +kernel) rfl, pw_uX11⟩
theorem fl_X11_28 : pw_FL RX11 28 11 8 := ⟨RX11, TX11, 39, rfl, by decide, pw_tab 737 (by decide +kernel) rfl, pw_uX11⟩
theorem fl_X11_31 : pw_FL RX11 31 11 9 := ⟨RX11, TX11, 39, rfl, by decide, pw_tab 738 (by decide +kernel) rfl, pw_uX11⟩
theorem fl_X11_34 : pw_FL RX11 34 11 10 := ⟨RX11, TX11, 39, rfl, by decide, pw_tab 739 (by decide +kernel) rfl, pw_uX11⟩
theorem fl_X11_37 : pw_FL RX11 37 11 11 := ⟨RX11, TX11, 39, rfl, by decide, pw_tab 740 (by decide +kernel) rfl, pw_uX11⟩
theorem fl_X11_40 : pw_FL RX11 40 11 12 := ⟨RX11, TX11, 39, rfl, by decide, pw_tab 741 (by decide +kernel) rfl, pw_uX11⟩
theorem fl_X11_43 : pw_FL RX11 43 11 13 := ⟨RX11, TX11, 39, rfl, by decide, pw_tab 742 (by decide +kernel) rfl, pw_uX11⟩
theorem fl_X11_46 : pw_FL RX11 46 11 14 := ⟨RX11, TX11, 39, rfl, by decide, pw_tab 743 (by decide +kernel) rfl, pw_uX11⟩
theorem fl_X11_166 : pw_FL RX11 166 11 15 := ⟨RX11, TX11, 39, rfl, by decide, pw_tab 744 (by decide +kernel) rfl, pw_uX11⟩
theorem fp_X11_166 : pw_FP RX11 166 11 15 .int := ⟨RX11, TX11, 39, tyX11, rfl, by decide, pw_tab 744 (by decide +kernel) rfl, pw_uX11, tyX11_ok, nmX11, rfl, by decide +kernel⟩
theorem fl_X11_49 : pw_FL RX11 49 11 16 := ⟨RX11, TX11, 39, rfl, by decide, pw_tab 745 (by decide +kernel) rfl, pw_uX11⟩
theorem fl_X11_52 : pw_FL RX11 52 11 17 := ⟨RX11, TX11, 39, rfl, by decide, pw_tab 746 (by decide +kernel) rfl, pw_uX11⟩
theorem fl_X11_55 : pw_FL RX11 55 11 18 := ⟨RX11, TX11, 39, rfl, by decide, pw_tab 747 (by decide +kernel) rfl, pw_uX11⟩
theorem fl_X11_169 : pw_FL RX11 169 11 19 := ⟨RX11, TX11, 39, rfl, by decide, pw_tab 748 (by decide +kernel) rfl, pw_uX11⟩
theorem fp_X11_169 : pw_FP RX11 169 11 19 .int := ⟨RX11, TX11, 39, tyX11, rfl, by decide, pw_tab 748 (by decide +kernel) rfl, pw_uX11, tyX11_ok, nmX11, rfl, by decide +kernel⟩
theorem fl_X11_58 : pw_FL RX11 58 11 20 := ⟨RX11, TX11, 39, rfl, by decide, pw_tab 749 (by decide +kernel) rfl, pw_uX11⟩
theorem fl_X11_61 : pw_FL RX11 61 11 21 := ⟨RX11, TX11, 39, rfl, by decide, pw_tab 750 (by decide +kernel) rfl, pw_uX11⟩
theorem fl_X11_64 : pw_FL RX11 64 11 22 := ⟨RX11, TX11, 39, rfl, by decide, pw_tab 751 (by decide +kernel) rfl, pw_uX11⟩
theorem fl_X11_67 : pw_FL RX11 67 11 23 := ⟨RX11, TX11, 39, rfl, by decide, pw_tab 752 (by decide +kernel) rfl, pw_uX11⟩
theorem fl_X11_70 : pw_FL RX11 70 11 24 := ⟨RX11, TX11, 39, rfl, by decide, pw_tab 753 (by decide +kernel) rfl, pw_uX11⟩
theorem fl_X11_73 : pw_FL RX11 73 11 25 := ⟨RX11, TX11, 39, rfl, by decide, pw_tab 754 (by decide +kernel) rfl, pw_uX11⟩
theorem fl_X11_184 : pw_FL RX11 184 11 26 := ⟨RX11, TX11, 39, rfl, by decide, pw_tab 755 (by decide +kernel) rfl, pw_uX11⟩
theorem fp_X11_184 : pw_FP RX11 184 11 26 .int := ⟨RX11, TX11, 39, tyX11, rfl, by decide, pw_tab 755 (by decide +kernel) rfl, pw_uX11, tyX11_ok, nmX11, rfl, by decide +kernel⟩
theorem fl_X11_214 : pw_FL RX11 214 11 27 := ⟨RX11, TX11, 39, rfl, by decide, pw_tab 756 (by decide +kernel) rfl, pw_uX11⟩
theorem fp_X11_214 : pw_FP RX11 214 11 27 .boolean := ⟨RX11, TX11, 39, tyX11, rfl, by decide, pw_tab 756 (by decide +kernel) rfl, pw_uX11, tyX11_ok, nmX11, rfl, by decide +kernel⟩
theorem fl_X11_202 : pw_FL RX11 202 11 28 := ⟨RX11, TX11, 39, rfl, by decide, pw_tab 757 (by decide +kernel) rfl, pw_uX11⟩
theorem fp_X11_202 : pw_FP RX11 202 11 28 .int := ⟨RX11, TX11, 39, tyX11, rfl, by decide, pw_tab 757 (by decide +kernel) rfl, pw_uX11, tyX11_ok, nmX11, rfl, by decide +kernel⟩
theorem fl_X11_76 : pw_FL RX11 76 11 29 := ⟨RX11, TX11, 39, rfl, by decide, pw_tab 758 (by decide +kernel) rfl, pw_uX11⟩
theorem fl_X11_79 : pw_FL RX11 79 11 30 := ⟨RX11, TX11, 39, rfl, by decide, pw_tab 759 (by decide +kernel) rfl, pw_uX11⟩
theorem fl_X11_221 : pw_FL RX11 221 11 31 := ⟨RX11, TX11, 39, rfl, by decide, pw_tab 760 (by decide +kernel) rfl, pw_uX11⟩
theorem fp_X11_221 : pw_FP RX11 221 11 31 .int := ⟨RX11, TX11, 39, tyX11, rfl, by decide, pw_tab 760 (by decide +kernel) rfl, pw_uX11, tyX11_ok, nmX11, rfl, by decide +kernel⟩
theorem fl_X11_205 : pw_FL RX11 205 11 32 := ⟨RX11, TX11, 39, rfl, by decide, pw_tab 761 (by decide +kernel) rfl, pw_uX11⟩
theorem fp_X11_205 : pw_FP RX11 205 11 32 .int := ⟨RX11, TX11, 39, tyX11, rfl, by decide, pw_tab 761 (by decide +kernel) rfl, pw_uX11, tyX11_ok, nmX11, rfl, by decide +kernel⟩
theorem fl_X11_208 : pw_FL RX11 208 11 33 := ⟨RX11, TX11, 39, rfl, by decide, pw_tab 762 (by decide +kernel) rfl, pw_uX11⟩
theorem fp_X11_208 : pw_FP RX11 208 11 33 .int := ⟨RX11, TX11, 39, tyX11, rfl, by decide, pw_tab 762 (by decide +kernel) rfl, pw_uX11, tyX11_ok, nmX11, rfl, by decide +kernel⟩
theorem fl_X11_218 : pw_FL RX11 218 11 34 := ⟨RX11, TX11, 39, rfl, by decide, pw_tab 763 (by decide +kernel) rfl, pw_uX11⟩
theorem fp_X11_218 : pw_FP RX11 218 11 34 .int := ⟨RX11, TX11, 39, tyX11, rfl, by decide, pw_tab 763 (by decide +kernel) rfl, pw_uX11, tyX11_ok, nmX11, rfl, by decide +kernel⟩
theorem fl_X11_211 : pw_FL RX11 211 11 35 := ⟨RX11, TX11, 39, rfl, by decide, pw_tab 764 (by decide +kernel) rfl, pw_uX11⟩
theorem fp_X11_211 : pw_FP RX11 211 11 35 .int := ⟨RX11, TX11, 39, tyX11, rfl, by decide, pw_tab 764 (by decide +kernel) rfl, pw_uX11, tyX11_ok, nmX11, rfl, by decide +kernel⟩
theorem fl_X11_82 : pw_FL RX11 82 11 36 := ⟨RX11, TX11, 39, rfl, by decide, pw_tab 765 (by decide +kernel) rfl, pw_uX11⟩
theorem fl_X11_85 : pw_FL RX11 85 11 37 := ⟨RX11, TX11, 39, rfl, by decide, pw_tab 766 (by decide +kernel) rfl, pw_uX11⟩
theorem fl_X11_88 : pw_FL RX11 88 11 38 := ⟨RX11, TX11, 39, rfl, by decide, pw_tab 767 (by decide +kernel) rfl, pw_uX11⟩
theorem mv_L_17 : pw_MV RL 17 11 m_X11_routine 1 := ⟨⟨TX11, 39, rfl⟩, pw_tab 847 (by decide +kernel) rfl, pw_tab 848 (by decide +kernel) rfl, pw_tab 849 (by decide +kernel) rfl, mb_X11_routine⟩
theorem k_X11_101 : Jvm.Cond.constantLong RX11 101 (500) ∈ pw_ws := pw_tab 851 (by decide +kernel) rfl
theorem ms_X11_95 : pw_MS RX11 95 m_X11_in 3 := ⟨pw_tab 852 (by decide +kernel) rfl, pw_tab 853 (by decide +kernel) rfl, mb_X11_in⟩
theorem mv_L_22 : pw_MV RL 22 11 m_X11_frame 2 := ⟨⟨TX11, 39, rfl⟩, pw_tab 855 (by decide +kernel) rfl, pw_tab 856 (by decide +kernel) rfl, pw_tab 857 (by decide +kernel) rfl, mb_X11_frame⟩
theorem mv_X11_103 : pw_MV RX11 103 11 m_X11_is 1 := ⟨⟨TX11, 39, rfl⟩, pw_tab 859 (by decide +kernel) rfl, pw_tab 861 (by decide +kernel) rfl, pw_sel 29 (by decide +kernel) rfl, mb_X11_is⟩
theorem mv_L_26 : pw_MV RL 26 11 m_X11_turns 2 := ⟨⟨TX11, 39, rfl⟩, pw_tab 863 (by decide +kernel) rfl, pw_tab 864 (by decide +kernel) rfl, pw_tab 865 (by decide +kernel) rfl, mb_X11_turns⟩
theorem k_X11_107 : Jvm.Cond.constantLong RX11 107 (20) ∈ pw_ws := pw_tab 867 (by decide +kernel) rfl
theorem mv_L_31 : pw_MV RL 31 11 m_X11_call 4 := ⟨⟨TX11, 39, rfl⟩, pw_tab 868 (by decide +kernel) rfl, pw_tab 869 (by decide +kernel) rfl, pw_tab 870 (by decide +kernel) rfl, mb_X11_call⟩
theorem ms_X11_121 : pw_MS RX11 121 m_X11_sortOf 2 := ⟨pw_tab 872 (by decide +kernel) rfl, pw_tab 873 (by decide +kernel) rfl, mb_X11_sortOf⟩
theorem mv_X11_125 : pw_MV RX11 125 11 m_X11_called 3 := ⟨⟨TX11, 39, rfl⟩, pw_tab 875 (by decide +kernel) rfl, pw_tab 877 (by decide +kernel) rfl, pw_sel 30 (by decide +kernel) rfl, mb_X11_called⟩
theorem k_X11_112 : Jvm.Cond.constantLong RX11 112 (3) ∈ pw_ws := pw_tab 879 (by decide +kernel) rfl
theorem ms_X11_114 : pw_MS RX11 114 m_X11_isPointer 1 := ⟨pw_tab 880 (by decide +kernel) rfl, pw_tab 881 (by decide +kernel) rfl, mb_X11_isPointer⟩
theorem k_X11_99 : Jvm.Cond.constantLong RX11 99 (7) ∈ pw_ws := pw_tab 883 (by decide +kernel) rfl
theorem mv_X11_117 : pw_MV RX11 117 11 m_X11_find 3 := ⟨⟨TX11, 39, rfl⟩, pw_tab 884 (by decide +kernel) rfl, pw_tab 886 (by decide +kernel) rfl, pw_sel 31 (by decide +kernel) rfl, mb_X11_find⟩
theorem mv_L_35 : pw_MV RL 35 11 m_X11_cut 4 := ⟨⟨TX11, 39, rfl⟩, pw_tab 888 (by decide +kernel) rfl, pw_tab 889 (by decide +kernel) rfl, pw_tab 890 (by decide +kernel) rfl, mb_X11_cut⟩
theorem mv_L_39 : pw_MV RL 39 11 m_X11_take 2 := ⟨⟨TX11, 39, rfl⟩, pw_tab 892 (by decide +kernel) rfl, pw_tab 893 (by decide +kernel) rfl, pw_tab 894 (by decide +kernel) rfl, mb_X11_take⟩
theorem mv_L_43 : pw_MV RL 43 11 m_X11_flow 2 := ⟨⟨TX11, 39, rfl⟩, pw_tab 896 (by decide +kernel) rfl, pw_tab 897 (by decide +kernel) rfl, pw_tab 898 (by decide +kernel) rfl, mb_X11_flow⟩
theorem mv_L_47 : pw_MV RL 47 11 m_X11_goals 1 := ⟨⟨TX11, 39, rfl⟩, pw_tab 900 (by decide +kernel) rfl, pw_tab 901 (by decide +kernel) rfl, pw_tab 902 (by decide +kernel) rfl, mb_X11_goals⟩
theorem mv_X11_128 : pw_MV RX11 128 11 m_X11_layGoals 0 := ⟨⟨TX11, 39, rfl⟩, pw_tab 904 (by decide +kernel) rfl, pw_tab 906 (by decide +kernel) rfl, pw_sel 32 (by decide +kernel) rfl, mb_X11_layGoals⟩
theorem mv_L_51 : pw_MV RL 51 11 m_X11_about 2 := ⟨⟨TX11, 39, rfl⟩, pw_tab 908 (by decide +kernel) rfl, pw_tab 909 (by decide +kernel) rfl, pw_tab 910 (by decide +kernel) rfl, mb_X11_about⟩
theorem k_X11_131 : Jvm.Cond.constantLong RX11 131 (5) ∈ pw_ws := pw_tab 912 (by decide +kernel) rfl
theorem mv_X11_133 : pw_MV RX11 133 11 m_X11_layNet 0 := ⟨⟨TX11, 39, rfl⟩, pw_tab 913 (by decide +kernel) rfl, pw_tab 915 (by decide +kernel) rfl, pw_sel 33 (by decide +kernel) rfl, mb_X11_layNet⟩
theorem mv_X11_136 : pw_MV RX11 136 11 m_X11_isRing 1 := ⟨⟨TX11, 39, rfl⟩, pw_tab 917 (by decide +kernel) rfl, pw_tab 919 (by decide +kernel) rfl, pw_sel 34 (by decide +kernel) rfl, mb_X11_isRing⟩
theorem ms_X11_139 : pw_MS RX11 139 m_X11_leastOf 1 := ⟨pw_tab 921 (by decide +kernel) rfl, pw_tab 922 (by decide +kernel) rfl, mb_X11_leastOf⟩
theorem ms_X11_143 : pw_MS RX11 143 m_X11_sizeOf 1 := ⟨pw_tab 924 (by decide +kernel) rfl, pw_tab 925 (by decide +kernel) rfl, mb_X11_sizeOf⟩
theorem mv_L_55 : pw_MV RL 55 11 m_X11_depth 1 := ⟨⟨TX11, 39, rfl⟩, pw_tab 927 (by decide +kernel) rfl, pw_tab 928 (by decide +kernel) rfl, pw_tab 929 (by decide +kernel) rfl, mb_X11_depth⟩
theorem mv_X11_155 : pw_MV RX11 155 11 m_X11_layDepths 0 := ⟨⟨TX11, 39, rfl⟩, pw_tab 931 (by decide +kernel) rfl, pw_tab 933 (by decide +kernel) rfl, pw_sel 35 (by decide +kernel) rfl, mb_X11_layDepths⟩
theorem mv_X11_152 : pw_MV RX11 152 11 m_X11_reckoned 1 := ⟨⟨TX11, 39, rfl⟩, pw_tab 935 (by decide +kernel) rfl, pw_tab 937 (by decide +kernel) rfl, pw_sel 36 (by decide +kernel) rfl, mb_X11_reckoned⟩
theorem mv_X11_146 : pw_MV RX11 146 11 m_X11_greatest 1 := ⟨⟨TX11, 39, rfl⟩, pw_tab 939 (by decide +kernel) rfl, pw_tab 941 (by decide +kernel) rfl, pw_sel 37 (by decide +kernel) rfl, mb_X11_greatest⟩
theorem mv_X11_149 : pw_MV RX11 149 11 m_X11_own 1 := ⟨⟨TX11, 39, rfl⟩, pw_tab 943 (by decide +kernel) rfl, pw_tab 945 (by decide +kernel) rfl, pw_sel 38 (by decide +kernel) rfl, mb_X11_own⟩
theorem mv_L_59 : pw_MV RL 59 11 m_X11_way 2 := ⟨⟨TX11, 39, rfl⟩, pw_tab 947 (by decide +kernel) rfl, pw_tab 948 (by decide +kernel) rfl, pw_tab 949 (by decide +kernel) rfl, mb_X11_way⟩
theorem mv_X11_158 : pw_MV RX11 158 11 m_X11_reachesRing 1 := ⟨⟨TX11, 39, rfl⟩, pw_tab 951 (by decide +kernel) rfl, pw_tab 953 (by decide +kernel) rfl, pw_sel 39 (by decide +kernel) rfl, mb_X11_reachesRing⟩
theorem mv_X11_161 : pw_MV RX11 161 11 m_X11_nextOf 1 := ⟨⟨TX11, 39, rfl⟩, pw_tab 955 (by decide +kernel) rfl, pw_tab 957 (by decide +kernel) rfl, pw_sel 40 (by decide +kernel) rfl, mb_X11_nextOf⟩
theorem mv_L_63 : pw_MV RL 63 11 m_X11_endless 1 := ⟨⟨TX11, 39, rfl⟩, pw_tab 959 (by decide +kernel) rfl, pw_tab 960 (by decide +kernel) rfl, pw_tab 961 (by decide +kernel) rfl, mb_X11_endless⟩
theorem mv_L_68 : pw_MV RL 68 11 m_X11_interrupt 3 := ⟨⟨TX11, 39, rfl⟩, pw_tab 963 (by decide +kernel) rfl, pw_tab 964 (by decide +kernel) rfl, pw_tab 965 (by decide +kernel) rfl, mb_X11_interrupt⟩
theorem k_X11_164 : Jvm.Cond.constantLong RX11 164 (100) ∈ pw_ws := pw_tab 967 (by decide +kernel) rfl
theorem mv_L_72 : pw_MV RL 72 11 m_X11_task 3 := ⟨⟨TX11, 39, rfl⟩, pw_tab 968 (by decide +kernel) rfl, pw_tab 969 (by decide +kernel) rfl, pw_tab 970 (by decide +kernel) rfl, mb_X11_task⟩
theorem mv_L_76 : pw_MV RL 76 11 m_X11_total 2 := ⟨⟨TX11, 39, rfl⟩, pw_tab 972 (by decide +kernel) rfl, pw_tab 973 (by decide +kernel) rfl, pw_tab 974 (by decide +kernel) rfl, mb_X11_total⟩
theorem mv_X11_175 : pw_MV RX11 175 11 m_X11_isTask 1 := ⟨⟨TX11, 39, rfl⟩, pw_tab 976 (by decide +kernel) rfl, pw_tab 978 (by decide +kernel) rfl, pw_sel 41 (by decide +kernel) rfl, mb_X11_isTask⟩
theorem mv_X11_178 : pw_MV RX11 178 11 m_X11_totalOf 1 := ⟨⟨TX11, 39, rfl⟩, pw_tab 980 (by decide +kernel) rfl, pw_tab 982 (by decide +kernel) rfl, pw_sel 42 (by decide +kernel) rfl, mb_X11_totalOf⟩
theorem mv_X11_172 : pw_MV RX11 172 11 m_X11_top 1 := ⟨⟨TX11, 39, rfl⟩, pw_tab 984 (by decide +kernel) rfl, pw_tab 986 (by decide +kernel) rfl, pw_sel 43 (by decide +kernel) rfl, mb_X11_top⟩
theorem mv_L_81 : pw_MV RL 81 11 m_X11_apart 3 := ⟨⟨TX11, 39, rfl⟩, pw_tab 988 (by decide +kernel) rfl, pw_tab 989 (by decide +kernel) rfl, pw_tab 990 (by decide +kernel) rfl, mb_X11_apart⟩
theorem mv_L_86 : pw_MV RL 86 11 m_X11_shared 0 := ⟨⟨TX11, 39, rfl⟩, pw_tab 992 (by decide +kernel) rfl, pw_tab 993 (by decide +kernel) rfl, pw_tab 994 (by decide +kernel) rfl, mb_X11_shared⟩
theorem mv_X11_195 : pw_MV RX11 195 11 m_X11_share 0 := ⟨⟨TX11, 39, rfl⟩, pw_tab 996 (by decide +kernel) rfl, pw_tab 998 (by decide +kernel) rfl, pw_sel 44 (by decide +kernel) rfl, mb_X11_share⟩
theorem mv_X11_187 : pw_MV RX11 187 11 m_X11_sumOf 0 := ⟨⟨TX11, 39, rfl⟩, pw_tab 1000 (by decide +kernel) rfl, pw_tab 1002 (by decide +kernel) rfl, pw_sel 45 (by decide +kernel) rfl, mb_X11_sumOf⟩
theorem mv_X11_191 : pw_MV RX11 191 11 m_X11_nextWay 0 := ⟨⟨TX11, 39, rfl⟩, pw_tab 1004 (by decide +kernel) rfl, pw_tab 1006 (by decide +kernel) rfl, pw_sel 46 (by decide +kernel) rfl, mb_X11_nextWay⟩
theorem mv_X11_181 : pw_MV RX11 181 11 m_X11_highest 1 := ⟨⟨TX11, 39, rfl⟩, pw_tab 1008 (by decide +kernel) rfl, pw_tab 1010 (by decide +kernel) rfl, pw_sel 47 (by decide +kernel) rfl, mb_X11_highest⟩
theorem mv_L_90 : pw_MV RL 90 11 m_X11_group 1 := ⟨⟨TX11, 39, rfl⟩, pw_tab 1012 (by decide +kernel) rfl, pw_tab 1013 (by decide +kernel) rfl, pw_tab 1014 (by decide +kernel) rfl, mb_X11_group⟩
theorem mv_L_94 : pw_MV RL 94 11 m_X11_saves 2 := ⟨⟨TX11, 39, rfl⟩, pw_tab 1016 (by decide +kernel) rfl, pw_tab 1017 (by decide +kernel) rfl, pw_tab 1018 (by decide +kernel) rfl, mb_X11_saves⟩
theorem mv_X11_198 : pw_MV RX11 198 11 m_X11_savesOf 2 := ⟨⟨TX11, 39, rfl⟩, pw_tab 1020 (by decide +kernel) rfl, pw_tab 1022 (by decide +kernel) rfl, pw_sel 48 (by decide +kernel) rfl, mb_X11_savesOf⟩
theorem mv_L_98 : pw_MV RL 98 11 m_X11_best 1 := ⟨⟨TX11, 39, rfl⟩, pw_tab 1024 (by decide +kernel) rfl, pw_tab 1025 (by decide +kernel) rfl, pw_tab 1026 (by decide +kernel) rfl, mb_X11_best⟩
theorem mv_L_102 : pw_MV RL 102 11 m_X11_run 1 := ⟨⟨TX11, 39, rfl⟩, pw_tab 1028 (by decide +kernel) rfl, pw_tab 1029 (by decide +kernel) rfl, pw_tab 1030 (by decide +kernel) rfl, mb_X11_run⟩
theorem mv_X11_224 : pw_MV RX11 224 11 m_X11_put 1 := ⟨⟨TX11, 39, rfl⟩, pw_tab 1032 (by decide +kernel) rfl, pw_tab 1034 (by decide +kernel) rfl, pw_sel 49 (by decide +kernel) rfl, mb_X11_put⟩
theorem mv_L_106 : pw_MV RL 106 11 m_X11_enter 1 := ⟨⟨TX11, 39, rfl⟩, pw_tab 1036 (by decide +kernel) rfl, pw_tab 1037 (by decide +kernel) rfl, pw_tab 1038 (by decide +kernel) rfl, mb_X11_enter⟩
theorem mv_L_110 : pw_MV RL 110 11 m_X11_over 1 := ⟨⟨TX11, 39, rfl⟩, pw_tab 1040 (by decide +kernel) rfl, pw_tab 1041 (by decide +kernel) rfl, pw_tab 1042 (by decide +kernel) rfl, mb_X11_over⟩
theorem mv_X11_228 : pw_MV RX11 228 11 m_X11_pull 0 := ⟨⟨TX11, 39, rfl⟩, pw_tab 1044 (by decide +kernel) rfl, pw_tab 1046 (by decide +kernel) rfl, pw_sel 50 (by decide +kernel) rfl, mb_X11_pull⟩
theorem mv_L_114 : pw_MV RL 114 11 m_X11_leave 0 := ⟨⟨TX11, 39, rfl⟩, pw_tab 1048 (by decide +kernel) rfl, pw_tab 1049 (by decide +kernel) rfl, pw_tab 1050 (by decide +kernel) rfl, mb_X11_leave⟩
theorem mv_L_118 : pw_MV RL 118 11 m_X11_ran 1 := ⟨⟨TX11, 39, rfl⟩, pw_tab 1052 (by decide +kernel) rfl, pw_tab 1053 (by decide +kernel) rfl, pw_tab 1054 (by decide +kernel) rfl, mb_X11_ran⟩
theorem k_X11_231 : Jvm.Cond.constantLong RX11 231 (6) ∈ pw_ws := pw_tab 1056 (by decide +kernel) rfl
theorem mv_L_122 : pw_MV RL 122 11 m_X11_sheet 3 := ⟨⟨TX11, 39, rfl⟩, pw_tab 1057 (by decide +kernel) rfl, pw_tab 1058 (by decide +kernel) rfl, pw_tab 1059 (by decide +kernel) rfl, mb_X11_sheet⟩
theorem k_X11_233 : Jvm.Cond.constantLong RX11 233 (2) ∈ pw_ws := pw_tab 1061 (by decide +kernel) rfl
theorem mv_L_126 : pw_MV RL 126 11 m_X11_lay 3 := ⟨⟨TX11, 39, rfl⟩, pw_tab 1062 (by decide +kernel) rfl, pw_tab 1063 (by decide +kernel) rfl, pw_tab 1064 (by decide +kernel) rfl, mb_X11_lay⟩
theorem mv_L_131 : pw_MV RL 131 11 m_X11_scan 4 := ⟨⟨TX11, 39, rfl⟩, pw_tab 1066 (by decide +kernel) rfl, pw_tab 1067 (by decide +kernel) rfl, pw_tab 1068 (by decide +kernel) rfl, mb_X11_scan⟩
theorem mv_L_135 : pw_MV RL 135 11 m_X11_count 1 := ⟨⟨TX11, 39, rfl⟩, pw_tab 1070 (by decide +kernel) rfl, pw_tab 1071 (by decide +kernel) rfl, pw_tab 1072 (by decide +kernel) rfl, mb_X11_count⟩
end
section
theorem dX0_init_0 : decode cX0_init 0 = .ok (.aload_n 0, 1) := by decide +kernel
theorem dX0_init_1 : decode cX0_init 1 = .ok (.invokespecial 3, 3) := by decide +kernel
theorem dX0_init_4 : decode cX0_init 4 = .ok (.aload_n 0, 1) := by decide +kernel
theorem dX0_init_5 : decode cX0_init 5 = .ok (.iconst 4, 1) := by decide +kernel
theorem dX0_init_6 : decode cX0_init 6 = .ok (.bipush 20, 2) := by decide +kernel
theorem dX0_init_8 : decode cX0_init 8 = .ok (.multianewarray 9 2, 4) := by decide +kernel
theorem dX0_init_12 : decode cX0_init 12 = .ok (.putfield 11, 3) := by decide +kernel
theorem dX0_init_15 : decode cX0_init 15 = .ok (.return_, 1) := by decide +kernel
theorem dX0_has_0 : decode cX0_has 0 = .ok (.aload_n 0, 1) := by decide +kernel
theorem dX0_has_1 : decode cX0_has 1 = .ok (.getfield 11, 3) := by decide +kernel
theorem dX0_has_4 : decode cX0_has 4 = .ok (.iload_n 3, 1) := by decide +kernel
theorem dX0_has_5 : decode cX0_has 5 = .ok (.aaload, 1) := by decide +kernel
theorem dX0_has_6 : decode cX0_has 6 = .ok (.iload_n 1, 1) := by decide +kernel
theorem dX0_has_7 : decode cX0_has 7 = .ok (.iaload, 1) := by decide +kernel
theorem dX0_has_8 : decode cX0_has 8 = .ok (.iload_n 2, 1) := by decide +kernel
theorem dX0_has_9 : decode cX0_has 9 = .ok (.invokestatic 16, 3) := by decide +kernel
theorem dX0_has_12 : decode cX0_has 12 = .ok (.ireturn, 1) := by decide +kernel
theorem dX0_add_0 : decode cX0_add 0 = .ok (.aload_n 0, 1) := by decide +kernel
theorem dX0_add_1 : decode cX0_add 1 = .ok (.getfield 11, 3) := by decide +kernel
theorem dX0_add_4 : decode cX0_add 4 = .ok (.iload_n 3, 1) := by decide +kernel
theorem dX0_add_5 : decode cX0_add 5 = .ok (.aaload, 1) := by decide +kernel
theorem dX0_add_6 : decode cX0_add 6 = .ok (.iload_n 1, 1) := by decide +kernel
theorem dX0_add_7 : decode cX0_add 7 = .ok (.dup2, 1) := by decide +kernel
theorem dX0_add_8 : decode cX0_add 8 = .ok (.iaload, 1) := by decide +kernel
theorem dX0_add_9 : decode cX0_add 9 = .ok (.iconst 1, 1) := by decide +kernel
theorem dX0_add_10 : decode cX0_add 10 = .ok (.iload_n 2, 1) := by decide +kernel
theorem dX0_add_11 : decode cX0_add 11 = .ok (.ishl, 1) := by decide +kernel
theorem dX0_add_12 : decode cX0_add 12 = .ok (.ior, 1) := by decide +kernel
theorem dX0_add_13 : decode cX0_add 13 = .ok (.iastore, 1) := by decide +kernel
theorem dX0_add_14 : decode cX0_add 14 = .ok (.aload_n 0, 1) := by decide +kernel
theorem dX0_add_15 : decode cX0_add 15 = .ok (.dup, 1) := by decide +kernel
theorem dX0_add_16 : decode cX0_add 16 = .ok (.getfield 20, 3) := by decide +kernel
theorem dX0_add_19 : decode cX0_add 19 = .ok (.iconst 1, 1) := by decide +kernel
theorem dX0_add_20 : decode cX0_add 20 = .ok (.iadd, 1) := by decide +kernel
theorem dX0_add_21 : decode cX0_add 21 = .ok (.putfield 20, 3) := by decide +kernel
theorem dX0_add_24 : decode cX0_add 24 = .ok (.return_, 1) := by decide +kernel
theorem dX0_remove_0 : decode cX0_remove 0 = .ok (.aload_n 0, 1) := by decide +kernel
theorem dX0_remove_1 : decode cX0_remove 1 = .ok (.getfield 11, 3) := by decide +kernel
theorem dX0_remove_4 : decode cX0_remove 4 = .ok (.iload_n 3, 1) := by decide +kernel
theorem dX0_remove_5 : decode cX0_remove 5 = .ok (.aaload, 1) := by decide +kernel
theorem dX0_remove_6 : decode cX0_remove 6 = .ok (.iload_n 1, 1) := by decide +kernel
theorem dX0_remove_7 : decode cX0_remove 7 = .ok (.dup2, 1) := by decide +kernel
theorem dX0_remove_8 : decode cX0_remove 8 = .ok (.iaload, 1) := by decide +kernel
theorem dX0_remove_9 : decode cX0_remove 9 = .ok (.iconst 1, 1) := by decide +kernel
theorem dX0_remove_10 : decode cX0_remove 10 = .ok (.iload_n 2, 1) := by decide +kernel
theorem dX0_remove_11 : decode cX0_remove 11 = .ok (.ishl, 1) := by decide +kernel
theorem dX0_remove_12 : decode cX0_remove 12 = .ok (.iconst (-1), 1) := by decide +kernel
theorem dX0_remove_13 : decode cX0_remove 13 = .ok (.ixor, 1) := by decide +kernel
theorem dX0_remove_14 : decode cX0_remove 14 = .ok (.iand, 1) := by decide +kernel
theorem dX0_remove_15 : decode cX0_remove 15 = .ok (.iastore, 1) := by decide +kernel
theorem dX0_remove_16 : decode cX0_remove 16 = .ok (.aload_n 0, 1) := by decide +kernel
theorem dX0_remove_17 : decode cX0_remove 17 = .ok (.dup, 1) := by decide +kernel
theorem dX0_remove_18 : decode cX0_remove 18 = .ok (.getfield 20, 3) := by decide +kernel
theorem dX0_remove_21 : decode cX0_remove 21 = .ok (.iconst 1, 1) := by decide +kernel
theorem dX0_remove_22 : decode cX0_remove 22 = .ok (.isub, 1) := by decide +kernel
theorem dX0_remove_23 : decode cX0_remove 23 = .ok (.putfield 20, 3) := by decide +kernel
theorem dX0_remove_26 : decode cX0_remove 26 = .ok (.return_, 1) := by decide +kernel
theorem dX1_init_0 : decode cX1_init 0 = .ok (.aload_n 0, 1) := by decide +kernel
theorem dX1_init_1 : decode cX1_init 1 = .ok (.invokespecial 3, 3) := by decide +kernel
theorem dX1_init_4 : decode cX1_init 4 = .ok (.aload_n 0, 1) := by decide +kernel
theorem dX1_init_5 : decode cX1_init 5 = .ok (.iconst (-1), 1) := by decide +kernel
theorem dX1_init_6 : decode cX1_init 6 = .ok (.putfield 9, 3) := by decide +kernel
theorem dX1_init_9 : decode cX1_init 9 = .ok (.aload_n 0, 1) := by decide +kernel
theorem dX1_init_10 : decode cX1_init 10 = .ok (.bipush 20, 2) := by decide +kernel
theorem dX1_init_12 : decode cX1_init 12 = .ok (.newarray .int, 2) := by decide +kernel
theorem dX1_init_14 : decode cX1_init 14 = .ok (.putfield 15, 3) := by decide +kernel
theorem dX1_init_17 : decode cX1_init 17 = .ok (.aload_n 0, 1) := by decide +kernel
theorem dX1_init_18 : decode cX1_init 18 = .ok (.aload_n 1, 1) := by decide +kernel
theorem dX1_init_19 : decode cX1_init 19 = .ok (.putfield 19, 3) := by decide +kernel
theorem dX1_init_22 : decode cX1_init 22 = .ok (.aload_n 0, 1) := by decide +kernel
theorem dX1_init_23 : decode cX1_init 23 = .ok (.aload_n 2, 1) := by decide +kernel
theorem dX1_init_24 : decode cX1_init 24 = .ok (.putfield 23, 3) := by decide +kernel
theorem dX1_init_27 : decode cX1_init 27 = .ok (.return_, 1) := by decide +kernel
theorem dX1_measure_0 : decode cX1_measure 0 = .ok (.aload_n 0, 1) := by decide +kernel
theorem dX1_measure_1 : decode cX1_measure 1 = .ok (.getfield 23, 3) := by decide +kernel
theorem dX1_measure_4 : decode cX1_measure 4 = .ok (.invokevirtual 27, 3) := by decide +kernel
theorem dX1_measure_7 : decode cX1_measure 7 = .ok (.aload_n 0, 1) := by decide +kernel
theorem dX1_measure_8 : decode cX1_measure 8 = .ok (.iload_n 1, 1) := by decide +kernel
theorem dX1_measure_9 : decode cX1_measure 9 = .ok (.putfield 9, 3) := by decide +kernel
theorem dX1_measure_12 : decode cX1_measure 12 = .ok (.iconst 0, 1) := by decide +kernel
theorem dX1_measure_13 : decode cX1_measure 13 = .ok (.istore_n 2, 1) := by decide +kernel
theorem dX1_measure_14 : decode cX1_measure 14 = .ok (.iload_n 2, 1) := by decide +kernel
theorem dX1_measure_15 : decode cX1_measure 15 = .ok (.aload_n 0, 1) := by decide +kernel
theorem dX1_measure_16 : decode cX1_measure 16 = .ok (.getfield 23, 3) := by decide +kernel
theorem dX1_measure_19 : decode cX1_measure 19 = .ok (.getfield 32, 3) := by decide +kernel
theorem dX1_measure_22 : decode cX1_measure 22 = .ok (.if_icmp .ge 65, 3) := by decide +kernel
theorem dX1_measure_25 : decode cX1_measure 25 = .ok (.aload_n 0, 1) := by decide +kernel
theorem dX1_measure_26 : decode cX1_measure 26 = .ok (.getfield 23, 3) := by decide +kernel
theorem dX1_measure_29 : decode cX1_measure 29 = .ok (.getfield 35, 3) := by decide +kernel
theorem dX1_measure_32 : decode cX1_measure 32 = .ok (.iload_n 2, 1) := by decide +kernel
theorem dX1_measure_33 : decode cX1_measure 33 = .ok (.iaload, 1) := by decide +kernel
theorem dX1_measure_34 : decode cX1_measure 34 = .ok (.istore_n 3, 1) := by decide +kernel
theorem dX1_measure_35 : decode cX1_measure 35 = .ok (.aload_n 0, 1) := by decide +kernel
theorem dX1_measure_36 : decode cX1_measure 36 = .ok (.getfield 23, 3) := by decide +kernel
theorem dX1_measure_39 : decode cX1_measure 39 = .ok (.getfield 38, 3) := by decide +kernel
theorem dX1_measure_42 : decode cX1_measure 42 = .ok (.iload_n 3, 1) := by decide +kernel
theorem dX1_measure_43 : decode cX1_measure 43 = .ok (.iaload, 1) := by decide +kernel
theorem dX1_measure_44 : decode cX1_measure 44 = .ok (.istore 4, 2) := by decide +kernel
theorem dX1_measure_46 : decode cX1_measure 46 = .ok (.aload_n 0, 1) := by decide +kernel
theorem dX1_measure_47 : decode cX1_measure 47 = .ok (.iload 4, 2) := by decide +kernel
theorem dX1_measure_49 : decode cX1_measure 49 = .ok (.aload_n 0, 1) := by decide +kernel
theorem dX1_measure_50 : decode cX1_measure 50 = .ok (.getfield 23, 3) := by decide +kernel
theorem dX1_measure_53 : decode cX1_measure 53 = .ok (.getfield 41, 3) := by decide +kernel
theorem dX1_measure_56 : decode cX1_measure 56 = .ok (.iload_n 3, 1) := by decide +kernel
theorem dX1_measure_57 : decode cX1_measure 57 = .ok (.invokestatic 44, 3) := by decide +kernel
theorem dX1_measure_60 : decode cX1_measure 60 = .ok (.ifCond .eq 12, 3) := by decide +kernel
theorem dX1_measure_63 : decode cX1_measure 63 = .ok (.aload_n 0, 1) := by decide +kernel
theorem dX1_measure_64 : decode cX1_measure 64 = .ok (.iload 4, 2) := by decide +kernel
theorem dX1_measure_66 : decode cX1_measure 66 = .ok (.invokevirtual 48, 3) := by decide +kernel
theorem dX1_measure_69 : decode cX1_measure 69 = .ok (.goto 9, 3) := by decide +kernel
theorem dX1_measure_72 : decode cX1_measure 72 = .ok (.aload_n 0, 1) := by decide +kernel
theorem dX1_measure_73 : decode cX1_measure 73 = .ok (.iload 4, 2) := by decide +kernel
theorem dX1_measure_75 : decode cX1_measure 75 = .ok (.invokevirtual 52, 3) := by decide +kernel
theorem dX1_measure_78 : decode cX1_measure 78 = .ok (.invokevirtual 55, 3) := by decide +kernel
theorem dX1_measure_81 : decode cX1_measure 81 = .ok (.iinc 2 1, 3) := by decide +kernel
theorem dX1_measure_84 : decode cX1_measure 84 = .ok (.goto (-70), 3) := by decide +kernel
theorem dX1_measure_87 : decode cX1_measure 87 = .ok (.return_, 1) := by decide +kernel
theorem dX1_nextOnWay_0 : decode cX1_nextOnWay 0 = .ok (.aload_n 0, 1) := by decide +kernel
theorem dX1_nextOnWay_1 : decode cX1_nextOnWay 1 = .ok (.getfield 15, 3) := by decide +kernel
theorem dX1_nextOnWay_4 : decode cX1_nextOnWay 4 = .ok (.iload_n 1, 1) := by decide +kernel
theorem dX1_nextOnWay_5 : decode cX1_nextOnWay 5 = .ok (.iaload, 1) := by decide +kernel
theorem dX1_nextOnWay_6 : decode cX1_nextOnWay 6 = .ok (.istore_n 2, 1) := by decide +kernel
theorem dX1_nextOnWay_7 : decode cX1_nextOnWay 7 = .ok (.aload_n 0, 1) := by decide +kernel
theorem dX1_nextOnWay_8 : decode cX1_nextOnWay 8 = .ok (.iload_n 1, 1) := by decide +kernel
theorem dX1_nextOnWay_9 : decode cX1_nextOnWay 9 = .ok (.invokevirtual 59, 3) := by decide +kernel
theorem dX1_nextOnWay_12 : decode cX1_nextOnWay 12 = .ok (.iload_n 2, 1) := by decide +kernel
theorem dX1_nextOnWay_13 : decode cX1_nextOnWay 13 = .ok (.if_icmp .ge 18, 3) := by decide +kernel
theorem dX1_nextOnWay_16 : decode cX1_nextOnWay 16 = .ok (.aload_n 0, 1) := by decide +kernel
theorem dX1_nextOnWay_17 : decode cX1_nextOnWay 17 = .ok (.aload_n 0, 1) := by decide +kernel
theorem dX1_nextOnWay_18 : decode cX1_nextOnWay 18 = .ok (.getfield 23, 3) := by decide +kernel
theorem dX1_nextOnWay_21 : decode cX1_nextOnWay 21 = .ok (.getfield 38, 3) := by decide +kernel
theorem dX1_nextOnWay_24 : decode cX1_nextOnWay 24 = .ok (.iload_n 1, 1) := by decide +kernel
theorem dX1_nextOnWay_25 : decode cX1_nextOnWay 25 = .ok (.iaload, 1) := by decide +kernel
theorem dX1_nextOnWay_26 : decode cX1_nextOnWay 26 = .ok (.iload_n 2, 1) := by decide +kernel
theorem dX1_nextOnWay_27 : decode cX1_nextOnWay 27 = .ok (.invokevirtual 62, 3) := by decide +kernel
theorem dX1_nextOnWay_30 : decode cX1_nextOnWay 30 = .ok (.ireturn, 1) := by decide +kernel
theorem dX1_nextOnWay_31 : decode cX1_nextOnWay 31 = .ok (.aload_n 0, 1) := by decide +kernel
theorem dX1_nextOnWay_32 : decode cX1_nextOnWay 32 = .ok (.aload_n 0, 1) := by decide +kernel
theorem dX1_nextOnWay_33 : decode cX1_nextOnWay 33 = .ok (.getfield 23, 3) := by decide +kernel
theorem dX1_nextOnWay_36 : decode cX1_nextOnWay 36 = .ok (.getfield 66, 3) := by decide +kernel
theorem dX1_nextOnWay_39 : decode cX1_nextOnWay 39 = .ok (.iload_n 1, 1) := by decide +kernel
theorem dX1_nextOnWay_40 : decode cX1_nextOnWay 40 = .ok (.iaload, 1) := by decide +kernel
theorem dX1_nextOnWay_41 : decode cX1_nextOnWay 41 = .ok (.iload_n 2, 1) := by decide +kernel
theorem dX1_nextOnWay_42 : decode cX1_nextOnWay 42 = .ok (.aload_n 0, 1) := by decide +kernel
theorem dX1_nextOnWay_43 : decode cX1_nextOnWay 43 = .ok (.iload_n 1, 1) := by decide +kernel
theorem dX1_nextOnWay_44 : decode cX1_nextOnWay 44 = .ok (.invokevirtual 69, 3) := by decide +kernel
theorem dX1_nextOnWay_47 : decode cX1_nextOnWay 47 = .ok (.isub, 1) := by decide +kernel
theorem dX1_nextOnWay_48 : decode cX1_nextOnWay 48 = .ok (.invokevirtual 72, 3) := by decide +kernel
theorem dX1_nextOnWay_51 : decode cX1_nextOnWay 51 = .ok (.istore_n 3, 1) := by decide +kernel
theorem dX1_nextOnWay_52 : decode cX1_nextOnWay 52 = .ok (.iload_n 3, 1) := by decide +kernel
theorem dX1_nextOnWay_53 : decode cX1_nextOnWay 53 = .ok (.bipush (-4), 2) := by decide +kernel
theorem dX1_nextOnWay_55 : decode cX1_nextOnWay 55 = .ok (.if_icmp .eq 5, 3) := by decide +kernel
theorem dX1_nextOnWay_58 : decode cX1_nextOnWay 58 = .ok (.iload_n 3, 1) := by decide +kernel
theorem dX1_nextOnWay_59 : decode cX1_nextOnWay 59 = .ok (.ireturn, 1) := by decide +kernel
theorem dX1_nextOnWay_60 : decode cX1_nextOnWay 60 = .ok (.aload_n 0, 1) := by decide +kernel
theorem dX1_nextOnWay_61 : decode cX1_nextOnWay 61 = .ok (.aload_n 0, 1) := by decide +kernel
theorem dX1_nextOnWay_62 : decode cX1_nextOnWay 62 = .ok (.getfield 23, 3) := by decide +kernel
theorem dX1_nextOnWay_65 : decode cX1_nextOnWay 65 = .ok (.getfield 75, 3) := by decide +kernel
theorem dX1_nextOnWay_68 : decode cX1_nextOnWay 68 = .ok (.iload_n 1, 1) := by decide +kernel
theorem dX1_nextOnWay_69 : decode cX1_nextOnWay 69 = .ok (.iaload, 1) := by decide +kernel
theorem dX1_nextOnWay_70 : decode cX1_nextOnWay 70 = .ok (.aload_n 0, 1) := by decide +kernel
theorem dX1_nextOnWay_71 : decode cX1_nextOnWay 71 = .ok (.getfield 23, 3) := by decide +kernel
theorem dX1_nextOnWay_74 : decode cX1_nextOnWay 74 = .ok (.getfield 38, 3) := by decide +kernel
theorem dX1_nextOnWay_77 : decode cX1_nextOnWay 77 = .ok (.iload_n 1, 1) := by decide +kernel
theorem dX1_nextOnWay_78 : decode cX1_nextOnWay 78 = .ok (.iaload, 1) := by decide +kernel
theorem dX1_nextOnWay_79 : decode cX1_nextOnWay 79 = .ok (.iconst (-1), 1) := by decide +kernel
theorem dX1_nextOnWay_80 : decode cX1_nextOnWay 80 = .ok (.ixor, 1) := by decide +kernel
theorem dX1_nextOnWay_81 : decode cX1_nextOnWay 81 = .ok (.iand, 1) := by decide +kernel
theorem dX1_nextOnWay_82 : decode cX1_nextOnWay 82 = .ok (.iload_n 2, 1) := by decide +kernel
theorem dX1_nextOnWay_83 : decode cX1_nextOnWay 83 = .ok (.invokevirtual 72, 3) := by decide +kernel
theorem dX1_nextOnWay_86 : decode cX1_nextOnWay 86 = .ok (.ireturn, 1) := by decide +kernel
theorem dX1_spread_0 : decode cX1_spread 0 = .ok (.iconst 0, 1) := by decide +kernel
theorem dX1_spread_1 : decode cX1_spread 1 = .ok (.istore_n 3, 1) := by decide +kernel
theorem dX1_spread_2 : decode cX1_spread 2 = .ok (.iload_n 3, 1) := by decide +kernel
theorem dX1_spread_3 : decode cX1_spread 3 = .ok (.aload_n 0, 1) := by decide +kernel
theorem dX1_spread_4 : decode cX1_spread 4 = .ok (.getfield 19, 3) := by decide +kernel
theorem dX1_spread_7 : decode cX1_spread 7 = .ok (.getfield 78, 3) := by decide +kernel
theorem dX1_spread_10 : decode cX1_spread 10 = .ok (.if_icmp .ge 24, 3) := by decide +kernel
theorem dX1_spread_13 : decode cX1_spread 13 = .ok (.iload_n 1, 1) := by decide +kernel
theorem dX1_spread_14 : decode cX1_spread 14 = .ok (.iload_n 3, 1) := by decide +kernel
theorem dX1_spread_15 : decode cX1_spread 15 = .ok (.invokestatic 44, 3) := by decide +kernel
theorem dX1_spread_18 : decode cX1_spread 18 = .ok (.ifCond .eq 10, 3) := by decide +kernel
theorem dX1_spread_21 : decode cX1_spread 21 = .ok (.aload_n 0, 1) := by decide +kernel
theorem dX1_spread_22 : decode cX1_spread 22 = .ok (.getfield 15, 3) := by decide +kernel
theorem dX1_spread_25 : decode cX1_spread 25 = .ok (.iload_n 3, 1) := by decide +kernel
theorem dX1_spread_26 : decode cX1_spread 26 = .ok (.iload_n 2, 1) := by decide +kernel
theorem dX1_spread_27 : decode cX1_spread 27 = .ok (.iastore, 1) := by decide +kernel
theorem dX1_spread_28 : decode cX1_spread 28 = .ok (.iinc 3 1, 3) := by decide +kernel
theorem dX1_spread_31 : decode cX1_spread 31 = .ok (.goto (-29), 3) := by decide +kernel
theorem dX1_spread_34 : decode cX1_spread 34 = .ok (.return_, 1) := by decide +kernel
theorem dX1_depthOfRing_0 : decode cX1_depthOfRing 0 = .ok (.iconst 0, 1) := by decide +kernel
theorem dX1_depthOfRing_1 : decode cX1_depthOfRing 1 = .ok (.istore_n 2, 1) := by decide +kernel
theorem dX1_depthOfRing_2 : decode cX1_depthOfRing 2 = .ok (.iconst 0, 1) := by decide +kernel
theorem dX1_depthOfRing_3 : decode cX1_depthOfRing 3 = .ok (.istore_n 3, 1) := by decide +kernel
theorem dX1_depthOfRing_4 : decode cX1_depthOfRing 4 = .ok (.iconst 0, 1) := by decide +kernel
theorem dX1_depthOfRing_5 : decode cX1_depthOfRing 5 = .ok (.istore 4, 2) := by decide +kernel
theorem dX1_depthOfRing_7 : decode cX1_depthOfRing 7 = .ok (.iload 4, 2) := by decide +kernel
theorem dX1_depthOfRing_9 : decode cX1_depthOfRing 9 = .ok (.aload_n 0, 1) := by decide +kernel
theorem dX1_depthOfRing_10 : decode cX1_depthOfRing 10 = .ok (.getfield 19, 3) := by decide +kernel
theorem dX1_depthOfRing_13 : decode cX1_depthOfRing 13 = .ok (.getfield 78, 3) := by decide +kernel
theorem dX1_depthOfRing_16 : decode cX1_depthOfRing 16 = .ok (.if_icmp .ge 88, 3) := by decide +kernel
theorem dX1_depthOfRing_19 : decode cX1_depthOfRing 19 = .ok (.iload_n 1, 1) := by decide +kernel
theorem dX1_depthOfRing_20 : decode cX1_depthOfRing 20 = .ok (.iload 4, 2) := by decide +kernel
theorem dX1_depthOfRing_22 : decode cX1_depthOfRing 22 = .ok (.invokestatic 44, 3) := by decide +kernel
theorem dX1_depthOfRing_25 : decode cX1_depthOfRing 25 = .ok (.ifCond .eq 73, 3) := by decide +kernel
theorem dX1_depthOfRing_28 : decode cX1_depthOfRing 28 = .ok (.aload_n 0, 1) := by decide +kernel
theorem dX1_depthOfRing_29 : decode cX1_depthOfRing 29 = .ok (.getfield 19, 3) := by decide +kernel
theorem dX1_depthOfRing_32 : decode cX1_depthOfRing 32 = .ok (.getfield 83, 3) := by decide +kernel
theorem dX1_depthOfRing_35 : decode cX1_depthOfRing 35 = .ok (.iload 4, 2) := by decide +kernel
theorem dX1_depthOfRing_37 : decode cX1_depthOfRing 37 = .ok (.iaload, 1) := by decide +kernel
theorem dX1_depthOfRing_38 : decode cX1_depthOfRing 38 = .ok (.ifCond .ne 6, 3) := by decide +kernel
theorem dX1_depthOfRing_41 : decode cX1_depthOfRing 41 = .ok (.bipush (-5), 2) := by decide +kernel
theorem dX1_depthOfRing_43 : decode cX1_depthOfRing 43 = .ok (.ireturn, 1) := by decide +kernel
theorem dX1_depthOfRing_44 : decode cX1_depthOfRing 44 = .ok (.iload_n 2, 1) := by decide +kernel
theorem dX1_depthOfRing_45 : decode cX1_depthOfRing 45 = .ok (.aload_n 0, 1) := by decide +kernel
theorem dX1_depthOfRing_46 : decode cX1_depthOfRing 46 = .ok (.iload 4, 2) := by decide +kernel
theorem dX1_depthOfRing_48 : decode cX1_depthOfRing 48 = .ok (.invokevirtual 69, 3) := by decide +kernel
theorem dX1_depthOfRing_51 : decode cX1_depthOfRing 51 = .ok (.aload_n 0, 1) := by decide +kernel
theorem dX1_depthOfRing_52 : decode cX1_depthOfRing 52 = .ok (.getfield 19, 3) := by decide +kernel
theorem dX1_depthOfRing_55 : decode cX1_depthOfRing 55 = .ok (.getfield 83, 3) := by decide +kernel
theorem dX1_depthOfRing_58 : decode cX1_depthOfRing 58 = .ok (.iload 4, 2) := by decide +kernel
theorem dX1_depthOfRing_60 : decode cX1_depthOfRing 60 = .ok (.iaload, 1) := by decide +kernel
theorem dX1_depthOfRing_61 : decode cX1_depthOfRing 61 = .ok (.imul, 1) := by decide +kernel
theorem dX1_depthOfRing_62 : decode cX1_depthOfRing 62 = .ok (.iadd, 1) := by decide +kernel
theorem dX1_depthOfRing_63 : decode cX1_depthOfRing 63 = .ok (.istore_n 2, 1) := by decide +kernel
theorem dX1_depthOfRing_64 : decode cX1_depthOfRing 64 = .ok (.iload_n 3, 1) := by decide +kernel
theorem dX1_depthOfRing_65 : decode cX1_depthOfRing 65 = .ok (.aload_n 0, 1) := by decide +kernel
theorem dX1_depthOfRing_66 : decode cX1_depthOfRing 66 = .ok (.aload_n 0, 1) := by decide +kernel
theorem dX1_depthOfRing_67 : decode cX1_depthOfRing 67 = .ok (.getfield 23, 3) := by decide +kernel
theorem dX1_depthOfRing_70 : decode cX1_depthOfRing 70 = .ok (.getfield 66, 3) := by decide +kernel
theorem dX1_depthOfRing_73 : decode cX1_depthOfRing 73 = .ok (.iload 4, 2) := by decide +kernel
theorem dX1_depthOfRing_75 : decode cX1_depthOfRing 75 = .ok (.iaload, 1) := by decide +kernel
theorem dX1_depthOfRing_76 : decode cX1_depthOfRing 76 = .ok (.aload_n 0, 1) := by decide +kernel
theorem dX1_depthOfRing_77 : decode cX1_depthOfRing 77 = .ok (.getfield 23, 3) := by decide +kernel
theorem dX1_depthOfRing_80 : decode cX1_depthOfRing 80 = .ok (.getfield 75, 3) := by decide +kernel
theorem dX1_depthOfRing_83 : decode cX1_depthOfRing 83 = .ok (.iload 4, 2) := by decide +kernel
theorem dX1_depthOfRing_85 : decode cX1_depthOfRing 85 = .ok (.iaload, 1) := by decide +kernel
theorem dX1_depthOfRing_86 : decode cX1_depthOfRing 86 = .ok (.ior, 1) := by decide +kernel
theorem dX1_depthOfRing_87 : decode cX1_depthOfRing 87 = .ok (.iload_n 1, 1) := by decide +kernel
theorem dX1_depthOfRing_88 : decode cX1_depthOfRing 88 = .ok (.iconst (-1), 1) := by decide +kernel
theorem dX1_depthOfRing_89 : decode cX1_depthOfRing 89 = .ok (.ixor, 1) := by decide +kernel
theorem dX1_depthOfRing_90 : decode cX1_depthOfRing 90 = .ok (.iand, 1) := by decide +kernel
theorem dX1_depthOfRing_91 : decode cX1_depthOfRing 91 = .ok (.invokevirtual 86, 3) := by decide +kernel
theorem dX1_depthOfRing_94 : decode cX1_depthOfRing 94 = .ok (.invokestatic 89, 3) := by decide +kernel
theorem dX1_depthOfRing_97 : decode cX1_depthOfRing 97 = .ok (.istore_n 3, 1) := by decide +kernel
theorem dX1_depthOfRing_98 : decode cX1_depthOfRing 98 = .ok (.iinc 4 1, 3) := by decide +kernel
theorem dX1_depthOfRing_101 : decode cX1_depthOfRing 101 = .ok (.goto (-94), 3) := by decide +kernel
theorem dX1_depthOfRing_104 : decode cX1_depthOfRing 104 = .ok (.iload_n 2, 1) := by decide +kernel
theorem dX1_depthOfRing_105 : decode cX1_depthOfRing 105 = .ok (.iload_n 3, 1) := by decide +kernel
theorem dX1_depthOfRing_106 : decode cX1_depthOfRing 106 = .ok (.invokestatic 92, 3) := by decide +kernel
theorem dX1_depthOfRing_109 : decode cX1_depthOfRing 109 = .ok (.ireturn, 1) := by decide +kernel
theorem dX1_depthOfTails_0 : decode cX1_depthOfTails 0 = .ok (.iconst 0, 1) := by decide +kernel
theorem dX1_depthOfTails_1 : decode cX1_depthOfTails 1 = .ok (.istore_n 2, 1) := by decide +kernel
theorem dX1_depthOfTails_2 : decode cX1_depthOfTails 2 = .ok (.iconst 0, 1) := by decide +kernel
theorem dX1_depthOfTails_3 : decode cX1_depthOfTails 3 = .ok (.istore_n 3, 1) := by decide +kernel
theorem dX1_depthOfTails_4 : decode cX1_depthOfTails 4 = .ok (.iload_n 3, 1) := by decide +kernel
theorem dX1_depthOfTails_5 : decode cX1_depthOfTails 5 = .ok (.aload_n 0, 1) := by decide +kernel
theorem dX1_depthOfTails_6 : decode cX1_depthOfTails 6 = .ok (.getfield 19, 3) := by decide +kernel
theorem dX1_depthOfTails_9 : decode cX1_depthOfTails 9 = .ok (.getfield 78, 3) := by decide +kernel
theorem dX1_depthOfTails_12 : decode cX1_depthOfTails 12 = .ok (.if_icmp .ge 27, 3) := by decide +kernel
theorem dX1_depthOfTails_15 : decode cX1_depthOfTails 15 = .ok (.iload_n 1, 1) := by decide +kernel
theorem dX1_depthOfTails_16 : decode cX1_depthOfTails 16 = .ok (.iload_n 3, 1) := by decide +kernel
theorem dX1_depthOfTails_17 : decode cX1_depthOfTails 17 = .ok (.invokestatic 44, 3) := by decide +kernel
theorem dX1_depthOfTails_20 : decode cX1_depthOfTails 20 = .ok (.ifCond .eq 13, 3) := by decide +kernel
theorem dX1_depthOfTails_23 : decode cX1_depthOfTails 23 = .ok (.iload_n 2, 1) := by decide +kernel
theorem dX1_depthOfTails_24 : decode cX1_depthOfTails 24 = .ok (.aload_n 0, 1) := by decide +kernel
theorem dX1_depthOfTails_25 : decode cX1_depthOfTails 25 = .ok (.iload_n 3, 1) := by decide +kernel
theorem dX1_depthOfTails_26 : decode cX1_depthOfTails 26 = .ok (.invokevirtual 59, 3) := by decide +kernel
theorem dX1_depthOfTails_29 : decode cX1_depthOfTails 29 = .ok (.invokestatic 89, 3) := by decide +kernel
theorem dX1_depthOfTails_32 : decode cX1_depthOfTails 32 = .ok (.istore_n 2, 1) := by decide +kernel
theorem dX1_depthOfTails_33 : decode cX1_depthOfTails 33 = .ok (.iinc 3 1, 3) := by decide +kernel
theorem dX1_depthOfTails_36 : decode cX1_depthOfTails 36 = .ok (.goto (-32), 3) := by decide +kernel
theorem dX1_depthOfTails_39 : decode cX1_depthOfTails 39 = .ok (.iload_n 2, 1) := by decide +kernel
theorem dX1_depthOfTails_40 : decode cX1_depthOfTails 40 = .ok (.ireturn, 1) := by decide +kernel
theorem dX1_depthOfItself_0 : decode cX1_depthOfItself 0 = .ok (.aload_n 0, 1) := by decide +kernel
theorem dX1_depthOfItself_1 : decode cX1_depthOfItself 1 = .ok (.iload_n 1, 1) := by decide +kernel
theorem dX1_depthOfItself_2 : decode cX1_depthOfItself 2 = .ok (.invokevirtual 69, 3) := by decide +kernel
theorem dX1_depthOfItself_5 : decode cX1_depthOfItself 5 = .ok (.aload_n 0, 1) := by decide +kernel
theorem dX1_depthOfItself_6 : decode cX1_depthOfItself 6 = .ok (.aload_n 0, 1) := by decide +kernel
theorem dX1_depthOfItself_7 : decode cX1_depthOfItself 7 = .ok (.getfield 23, 3) := by decide +kernel
theorem dX1_depthOfItself_10 : decode cX1_depthOfItself 10 = .ok (.getfield 66, 3) := by decide +kernel
theorem dX1_depthOfItself_13 : decode cX1_depthOfItself 13 = .ok (.iload_n 1, 1) := by decide +kernel
theorem dX1_depthOfItself_14 : decode cX1_depthOfItself 14 = .ok (.iaload, 1) := by decide +kernel
theorem dX1_depthOfItself_15 : decode cX1_depthOfItself 15 = .ok (.invokevirtual 86, 3) := by decide +kernel
theorem dX1_depthOfItself_18 : decode cX1_depthOfItself 18 = .ok (.invokestatic 92, 3) := by decide +kernel
theorem dX1_depthOfItself_21 : decode cX1_depthOfItself 21 = .ok (.istore_n 2, 1) := by decide +kernel
theorem dX1_depthOfItself_22 : decode cX1_depthOfItself 22 = .ok (.iload_n 2, 1) := by decide +kernel
theorem dX1_depthOfItself_23 : decode cX1_depthOfItself 23 = .ok (.aload_n 0, 1) := by decide +kernel
theorem dX1_depthOfItself_24 : decode cX1_depthOfItself 24 = .ok (.aload_n 0, 1) := by decide +kernel
theorem dX1_depthOfItself_25 : decode cX1_depthOfItself 25 = .ok (.getfield 23, 3) := by decide +kernel
theorem dX1_depthOfItself_28 : decode cX1_depthOfItself 28 = .ok (.getfield 75, 3) := by decide +kernel
theorem dX1_depthOfItself_31 : decode cX1_depthOfItself 31 = .ok (.iload_n 1, 1) := by decide +kernel
theorem dX1_depthOfItself_32 : decode cX1_depthOfItself 32 = .ok (.iaload, 1) := by decide +kernel
theorem dX1_depthOfItself_33 : decode cX1_depthOfItself 33 = .ok (.aload_n 0, 1) := by decide +kernel
theorem dX1_depthOfItself_34 : decode cX1_depthOfItself 34 = .ok (.getfield 23, 3) := by decide +kernel
theorem dX1_depthOfItself_37 : decode cX1_depthOfItself 37 = .ok (.getfield 38, 3) := by decide +kernel
theorem dX1_depthOfItself_40 : decode cX1_depthOfItself 40 = .ok (.iload_n 1, 1) := by decide +kernel
theorem dX1_depthOfItself_41 : decode cX1_depthOfItself 41 = .ok (.iaload, 1) := by decide +kernel
theorem dX1_depthOfItself_42 : decode cX1_depthOfItself 42 = .ok (.iconst (-1), 1) := by decide +kernel
theorem dX1_depthOfItself_43 : decode cX1_depthOfItself 43 = .ok (.ixor, 1) := by decide +kernel
theorem dX1_depthOfItself_44 : decode cX1_depthOfItself 44 = .ok (.iand, 1) := by decide +kernel
theorem dX1_depthOfItself_45 : decode cX1_depthOfItself 45 = .ok (.invokevirtual 86, 3) := by decide +kernel
theorem dX1_depthOfItself_48 : decode cX1_depthOfItself 48 = .ok (.invokestatic 89, 3) := by decide +kernel
theorem dX1_depthOfItself_51 : decode cX1_depthOfItself 51 = .ok (.ireturn, 1) := by decide +kernel
theorem dX1_frameOf_0 : decode cX1_frameOf 0 = .ok (.iload_n 1, 1) := by decide +kernel
theorem dX1_frameOf_1 : decode cX1_frameOf 1 = .ok (.aload_n 0, 1) := by decide +kernel
theorem dX1_frameOf_2 : decode cX1_frameOf 2 = .ok (.getfield 9, 3) := by decide +kernel
theorem dX1_frameOf_5 : decode cX1_frameOf 5 = .ok (.if_icmp .ne 7, 3) := by decide +kernel
theorem dX1_frameOf_8 : decode cX1_frameOf 8 = .ok (.iconst 0, 1) := by decide +kernel
theorem dX1_frameOf_9 : decode cX1_frameOf 9 = .ok (.goto 12, 3) := by decide +kernel
theorem dX1_frameOf_12 : decode cX1_frameOf 12 = .ok (.aload_n 0, 1) := by decide +kernel
theorem dX1_frameOf_13 : decode cX1_frameOf 13 = .ok (.getfield 19, 3) := by decide +kernel
theorem dX1_frameOf_16 : decode cX1_frameOf 16 = .ok (.getfield 95, 3) := by decide +kernel
theorem dX1_frameOf_19 : decode cX1_frameOf 19 = .ok (.iload_n 1, 1) := by decide +kernel
theorem dX1_frameOf_20 : decode cX1_frameOf 20 = .ok (.iaload, 1) := by decide +kernel
theorem dX1_frameOf_21 : decode cX1_frameOf 21 = .ok (.ireturn, 1) := by decide +kernel
theorem dX1_greatestOf_0 : decode cX1_greatestOf 0 = .ok (.iconst 0, 1) := by decide +kernel
theorem dX1_greatestOf_1 : decode cX1_greatestOf 1 = .ok (.istore_n 2, 1) := by decide +kernel
theorem dX1_greatestOf_2 : decode cX1_greatestOf 2 = .ok (.iconst 0, 1) := by decide +kernel
theorem dX1_greatestOf_3 : decode cX1_greatestOf 3 = .ok (.istore_n 3, 1) := by decide +kernel
theorem dX1_greatestOf_4 : decode cX1_greatestOf 4 = .ok (.iload_n 3, 1) := by decide +kernel
theorem dX1_greatestOf_5 : decode cX1_greatestOf 5 = .ok (.aload_n 0, 1) := by decide +kernel
theorem dX1_greatestOf_6 : decode cX1_greatestOf 6 = .ok (.getfield 19, 3) := by decide +kernel
theorem dX1_greatestOf_9 : decode cX1_greatestOf 9 = .ok (.getfield 78, 3) := by decide +kernel
theorem dX1_greatestOf_12 : decode cX1_greatestOf 12 = .ok (.if_icmp .ge 28, 3) := by decide +kernel
theorem dX1_greatestOf_15 : decode cX1_greatestOf 15 = .ok (.iload_n 1, 1) := by decide +kernel
theorem dX1_greatestOf_16 : decode cX1_greatestOf 16 = .ok (.iload_n 3, 1) := by decide +kernel
theorem dX1_greatestOf_17 : decode cX1_greatestOf 17 = .ok (.invokestatic 44, 3) := by decide +kernel
theorem dX1_greatestOf_20 : decode cX1_greatestOf 20 = .ok (.ifCond .eq 14, 3) := by decide +kernel
theorem dX1_greatestOf_23 : decode cX1_greatestOf 23 = .ok (.iload_n 2, 1) := by decide +kernel
theorem dX1_greatestOf_24 : decode cX1_greatestOf 24 = .ok (.aload_n 0, 1) := by decide +kernel
theorem dX1_greatestOf_25 : decode cX1_greatestOf 25 = .ok (.getfield 15, 3) := by decide +kernel
theorem dX1_greatestOf_28 : decode cX1_greatestOf 28 = .ok (.iload_n 3, 1) := by decide +kernel
theorem dX1_greatestOf_29 : decode cX1_greatestOf 29 = .ok (.iaload, 1) := by decide +kernel
theorem dX1_greatestOf_30 : decode cX1_greatestOf 30 = .ok (.invokestatic 89, 3) := by decide +kernel
theorem dX1_greatestOf_33 : decode cX1_greatestOf 33 = .ok (.istore_n 2, 1) := by decide +kernel
theorem dX1_greatestOf_34 : decode cX1_greatestOf 34 = .ok (.iinc 3 1, 3) := by decide +kernel
theorem dX1_greatestOf_37 : decode cX1_greatestOf 37 = .ok (.goto (-33), 3) := by decide +kernel
theorem dX1_greatestOf_40 : decode cX1_greatestOf 40 = .ok (.iload_n 2, 1) := by decide +kernel
theorem dX1_greatestOf_41 : decode cX1_greatestOf 41 = .ok (.ireturn, 1) := by decide +kernel
theorem dX1_leastThatHas_0 : decode cX1_leastThatHas 0 = .ok (.iconst 0, 1) := by decide +kernel
theorem dX1_leastThatHas_1 : decode cX1_leastThatHas 1 = .ok (.istore_n 3, 1) := by decide +kernel
theorem dX1_leastThatHas_2 : decode cX1_leastThatHas 2 = .ok (.iload_n 3, 1) := by decide +kernel
theorem dX1_leastThatHas_3 : decode cX1_leastThatHas 3 = .ok (.aload_n 0, 1) := by decide +kernel
theorem dX1_leastThatHas_4 : decode cX1_leastThatHas 4 = .ok (.getfield 19, 3) := by decide +kernel
theorem dX1_leastThatHas_7 : decode cX1_leastThatHas 7 = .ok (.getfield 78, 3) := by decide +kernel
theorem dX1_leastThatHas_10 : decode cX1_leastThatHas 10 = .ok (.if_icmp .ge 29, 3) := by decide +kernel
theorem dX1_leastThatHas_13 : decode cX1_leastThatHas 13 = .ok (.iload_n 1, 1) := by decide +kernel
theorem dX1_leastThatHas_14 : decode cX1_leastThatHas 14 = .ok (.iload_n 3, 1) := by decide +kernel
theorem dX1_leastThatHas_15 : decode cX1_leastThatHas 15 = .ok (.invokestatic 44, 3) := by decide +kernel
theorem dX1_leastThatHas_18 : decode cX1_leastThatHas 18 = .ok (.ifCond .eq 15, 3) := by decide +kernel
theorem dX1_leastThatHas_21 : decode cX1_leastThatHas 21 = .ok (.aload_n 0, 1) := by decide +kernel
theorem dX1_leastThatHas_22 : decode cX1_leastThatHas 22 = .ok (.getfield 15, 3) := by decide +kernel
theorem dX1_leastThatHas_25 : decode cX1_leastThatHas 25 = .ok (.iload_n 3, 1) := by decide +kernel
theorem dX1_leastThatHas_26 : decode cX1_leastThatHas 26 = .ok (.iaload, 1) := by decide +kernel
theorem dX1_leastThatHas_27 : decode cX1_leastThatHas 27 = .ok (.iload_n 2, 1) := by decide +kernel
theorem dX1_leastThatHas_28 : decode cX1_leastThatHas 28 = .ok (.if_icmp .ne 5, 3) := by decide +kernel
theorem dX1_leastThatHas_31 : decode cX1_leastThatHas 31 = .ok (.iload_n 3, 1) := by decide +kernel
theorem dX1_leastThatHas_32 : decode cX1_leastThatHas 32 = .ok (.ireturn, 1) := by decide +kernel
theorem dX1_leastThatHas_33 : decode cX1_leastThatHas 33 = .ok (.iinc 3 1, 3) := by decide +kernel
theorem dX1_leastThatHas_36 : decode cX1_leastThatHas 36 = .ok (.goto (-34), 3) := by decide +kernel
theorem dX1_leastThatHas_39 : decode cX1_leastThatHas 39 = .ok (.bipush (-4), 2) := by decide +kernel
theorem dX1_leastThatHas_41 : decode cX1_leastThatHas 41 = .ok (.ireturn, 1) := by decide +kernel
theorem dX1_leastThatTells_0 : decode cX1_leastThatTells 0 = .ok (.iconst 0, 1) := by decide +kernel
theorem dX1_leastThatTells_1 : decode cX1_leastThatTells 1 = .ok (.istore_n 3, 1) := by decide +kernel
theorem dX1_leastThatTells_2 : decode cX1_leastThatTells 2 = .ok (.iload_n 3, 1) := by decide +kernel
theorem dX1_leastThatTells_3 : decode cX1_leastThatTells 3 = .ok (.aload_n 0, 1) := by decide +kernel
theorem dX1_leastThatTells_4 : decode cX1_leastThatTells 4 = .ok (.getfield 19, 3) := by decide +kernel
theorem dX1_leastThatTells_7 : decode cX1_leastThatTells 7 = .ok (.getfield 78, 3) := by decide +kernel
theorem dX1_leastThatTells_10 : decode cX1_leastThatTells 10 = .ok (.if_icmp .ge 28, 3) := by decide +kernel
theorem dX1_leastThatTells_13 : decode cX1_leastThatTells 13 = .ok (.iload_n 1, 1) := by decide +kernel
theorem dX1_leastThatTells_14 : decode cX1_leastThatTells 14 = .ok (.iload_n 3, 1) := by decide +kernel
theorem dX1_leastThatTells_15 : decode cX1_leastThatTells 15 = .ok (.invokestatic 44, 3) := by decide +kernel
theorem dX1_leastThatTells_18 : decode cX1_leastThatTells 18 = .ok (.ifCond .eq 14, 3) := by decide +kernel
theorem dX1_leastThatTells_21 : decode cX1_leastThatTells 21 = .ok (.aload_n 0, 1) := by decide +kernel
theorem dX1_leastThatTells_22 : decode cX1_leastThatTells 22 = .ok (.iload_n 3, 1) := by decide +kernel
theorem dX1_leastThatTells_23 : decode cX1_leastThatTells 23 = .ok (.invokevirtual 59, 3) := by decide +kernel
theorem dX1_leastThatTells_26 : decode cX1_leastThatTells 26 = .ok (.iload_n 2, 1) := by decide +kernel
theorem dX1_leastThatTells_27 : decode cX1_leastThatTells 27 = .ok (.if_icmp .ne 5, 3) := by decide +kernel
theorem dX1_leastThatTells_30 : decode cX1_leastThatTells 30 = .ok (.iload_n 3, 1) := by decide +kernel
theorem dX1_leastThatTells_31 : decode cX1_leastThatTells 31 = .ok (.ireturn, 1) := by decide +kernel
theorem dX1_leastThatTells_32 : decode cX1_leastThatTells 32 = .ok (.iinc 3 1, 3) := by decide +kernel
theorem dX1_leastThatTells_35 : decode cX1_leastThatTells 35 = .ok (.goto (-33), 3) := by decide +kernel
theorem dX1_leastThatTells_38 : decode cX1_leastThatTells 38 = .ok (.bipush (-4), 2) := by decide +kernel
theorem dX1_leastThatTells_40 : decode cX1_leastThatTells 40 = .ok (.ireturn, 1) := by decide +kernel
theorem dX2_init_0 : decode cX2_init 0 = .ok (.aload_n 0, 1) := by decide +kernel
theorem dX2_init_1 : decode cX2_init 1 = .ok (.invokespecial 3, 3) := by decide +kernel
theorem dX2_init_4 : decode cX2_init 4 = .ok (.aload_n 0, 1) := by decide +kernel
theorem dX2_init_5 : decode cX2_init 5 = .ok (.iconst 1, 1) := by decide +kernel
theorem dX2_init_6 : decode cX2_init 6 = .ok (.putfield 9, 3) := by decide +kernel
theorem dX2_init_9 : decode cX2_init 9 = .ok (.aload_n 0, 1) := by decide +kernel
theorem dX2_init_10 : decode cX2_init 10 = .ok (.bipush 20, 2) := by decide +kernel
theorem dX2_init_12 : decode cX2_init 12 = .ok (.newarray .int, 2) := by decide +kernel
theorem dX2_init_14 : decode cX2_init 14 = .ok (.putfield 15, 3) := by decide +kernel
theorem dX2_init_17 : decode cX2_init 17 = .ok (.aload_n 0, 1) := by decide +kernel
theorem dX2_init_18 : decode cX2_init 18 = .ok (.bipush 20, 2) := by decide +kernel
theorem dX2_init_20 : decode cX2_init 20 = .ok (.newarray .int, 2) := by decide +kernel
theorem dX2_init_22 : decode cX2_init 22 = .ok (.putfield 19, 3) := by decide +kernel
theorem dX2_init_25 : decode cX2_init 25 = .ok (.aload_n 0, 1) := by decide +kernel
theorem dX2_init_26 : decode cX2_init 26 = .ok (.bipush 20, 2) := by decide +kernel
theorem dX2_init_28 : decode cX2_init 28 = .ok (.newarray .int, 2) := by decide +kernel
theorem dX2_init_30 : decode cX2_init 30 = .ok (.putfield 22, 3) := by decide +kernel
theorem dX2_init_33 : decode cX2_init 33 = .ok (.aload_n 0, 1) := by decide +kernel
theorem dX2_init_34 : decode cX2_init 34 = .ok (.bipush 20, 2) := by decide +kernel
theorem dX2_init_36 : decode cX2_init 36 = .ok (.newarray .int, 2) := by decide +kernel
theorem dX2_init_38 : decode cX2_init 38 = .ok (.putfield 25, 3) := by decide +kernel
theorem dX2_init_41 : decode cX2_init 41 = .ok (.aload_n 0, 1) := by decide +kernel
theorem dX2_init_42 : decode cX2_init 42 = .ok (.bipush 20, 2) := by decide +kernel
theorem dX2_init_44 : decode cX2_init 44 = .ok (.newarray .int, 2) := by decide +kernel
theorem dX2_init_46 : decode cX2_init 46 = .ok (.putfield 28, 3) := by decide +kernel
theorem dX2_init_49 : decode cX2_init 49 = .ok (.aload_n 0, 1) := by decide +kernel
theorem dX2_init_50 : decode cX2_init 50 = .ok (.aload_n 1, 1) := by decide +kernel
theorem dX2_init_51 : decode cX2_init 51 = .ok (.putfield 31, 3) := by decide +kernel
theorem dX2_init_54 : decode cX2_init 54 = .ok (.aload_n 0, 1) := by decide +kernel
theorem dX2_init_55 : decode cX2_init 55 = .ok (.aload_n 2, 1) := by decide +kernel
theorem dX2_init_56 : decode cX2_init 56 = .ok (.putfield 35, 3) := by decide +kernel
theorem dX2_init_59 : decode cX2_init 59 = .ok (.aload_n 0, 1) := by decide +kernel
theorem dX2_init_60 : decode cX2_init 60 = .ok (.aload_n 3, 1) := by decide +kernel
theorem dX2_init_61 : decode cX2_init 61 = .ok (.putfield 39, 3) := by decide +kernel
theorem dX2_init_64 : decode cX2_init 64 = .ok (.return_, 1) := by decide +kernel
theorem dX2_outdate_0 : decode cX2_outdate 0 = .ok (.aload_n 0, 1) := by decide +kernel
theorem dX2_outdate_1 : decode cX2_outdate 1 = .ok (.iconst 1, 1) := by decide +kernel
theorem dX2_outdate_2 : decode cX2_outdate 2 = .ok (.putfield 9, 3) := by decide +kernel
theorem dX2_outdate_5 : decode cX2_outdate 5 = .ok (.return_, 1) := by decide +kernel
theorem dX2_refresh_0 : decode cX2_refresh 0 = .ok (.aload_n 0, 1) := by decide +kernel
theorem dX2_refresh_1 : decode cX2_refresh 1 = .ok (.getfield 9, 3) := by decide +kernel
theorem dX2_refresh_4 : decode cX2_refresh 4 = .ok (.ifCond .ne 4, 3) := by decide +kernel
theorem dX2_refresh_7 : decode cX2_refresh 7 = .ok (.return_, 1) := by decide +kernel
theorem dX2_refresh_8 : decode cX2_refresh 8 = .ok (.aload_n 0, 1) := by decide +kernel
theorem dX2_refresh_9 : decode cX2_refresh 9 = .ok (.iconst 0, 1) := by decide +kernel
theorem dX2_refresh_10 : decode cX2_refresh 10 = .ok (.putfield 9, 3) := by decide +kernel
theorem dX2_refresh_13 : decode cX2_refresh 13 = .ok (.aload_n 0, 1) := by decide +kernel
theorem dX2_refresh_14 : decode cX2_refresh 14 = .ok (.invokevirtual 43, 3) := by decide +kernel
theorem dX2_refresh_17 : decode cX2_refresh 17 = .ok (.aload_n 0, 1) := by decide +kernel
theorem dX2_refresh_18 : decode cX2_refresh 18 = .ok (.invokevirtual 46, 3) := by decide +kernel
theorem dX2_refresh_21 : decode cX2_refresh 21 = .ok (.aload_n 0, 1) := by decide +kernel
theorem dX2_refresh_22 : decode cX2_refresh 22 = .ok (.invokevirtual 49, 3) := by decide +kernel
theorem dX2_refresh_25 : decode cX2_refresh 25 = .ok (.aload_n 0, 1) := by decide +kernel
theorem dX2_refresh_26 : decode cX2_refresh 26 = .ok (.invokevirtual 52, 3) := by decide +kernel
theorem dX2_refresh_29 : decode cX2_refresh 29 = .ok (.aload_n 0, 1) := by decide +kernel
theorem dX2_refresh_30 : decode cX2_refresh 30 = .ok (.invokevirtual 55, 3) := by decide +kernel
theorem dX2_refresh_33 : decode cX2_refresh 33 = .ok (.return_, 1) := by decide +kernel
theorem dX2_selfAndReached_0 : decode cX2_selfAndReached 0 = .ok (.aload_n 0, 1) := by decide +kernel
theorem dX2_selfAndReached_1 : decode cX2_selfAndReached 1 = .ok (.getfield 22, 3) := by decide +kernel
theorem dX2_selfAndReached_4 : decode cX2_selfAndReached 4 = .ok (.iload_n 1, 1) := by decide +kernel
theorem dX2_selfAndReached_5 : decode cX2_selfAndReached 5 = .ok (.iaload, 1) := by decide +kernel
theorem dX2_selfAndReached_6 : decode cX2_selfAndReached 6 = .ok (.iconst 1, 1) := by decide +kernel
theorem dX2_selfAndReached_7 : decode cX2_selfAndReached 7 = .ok (.iload_n 1, 1) := by decide +kernel
theorem dX2_selfAndReached_8 : decode cX2_selfAndReached 8 = .ok (.ishl, 1) := by decide +kernel
theorem dX2_selfAndReached_9 : decode cX2_selfAndReached 9 = .ok (.ior, 1) := by decide +kernel
theorem dX2_selfAndReached_10 : decode cX2_selfAndReached 10 = .ok (.ireturn, 1) := by decide +kernel
theorem dX2_howManyReach_0 : decode cX2_howManyReach 0 = .ok (.iconst 0, 1) := by decide +kernel
theorem dX2_howManyReach_1 : decode cX2_howManyReach 1 = .ok (.istore_n 2, 1) := by decide +kernel
theorem dX2_howManyReach_2 : decode cX2_howManyReach 2 = .ok (.iconst 0, 1) := by decide +kernel
theorem dX2_howManyReach_3 : decode cX2_howManyReach 3 = .ok (.istore_n 3, 1) := by decide +kernel
theorem dX2_howManyReach_4 : decode cX2_howManyReach 4 = .ok (.iload_n 3, 1) := by decide +kernel
theorem dX2_howManyReach_5 : decode cX2_howManyReach 5 = .ok (.aload_n 0, 1) := by decide +kernel
theorem dX2_howManyReach_6 : decode cX2_howManyReach 6 = .ok (.getfield 31, 3) := by decide +kernel
theorem dX2_howManyReach_9 : decode cX2_howManyReach 9 = .ok (.getfield 58, 3) := by decide +kernel
theorem dX2_howManyReach_12 : decode cX2_howManyReach 12 = .ok (.if_icmp .ge 25, 3) := by decide +kernel
theorem dX2_howManyReach_15 : decode cX2_howManyReach 15 = .ok (.aload_n 0, 1) := by decide +kernel
theorem dX2_howManyReach_16 : decode cX2_howManyReach 16 = .ok (.getfield 22, 3) := by decide +kernel
theorem dX2_howManyReach_19 : decode cX2_howManyReach 19 = .ok (.iload_n 3, 1) := by decide +kernel
theorem dX2_howManyReach_20 : decode cX2_howManyReach 20 = .ok (.iaload, 1) := by decide +kernel
theorem dX2_howManyReach_21 : decode cX2_howManyReach 21 = .ok (.iload_n 1, 1) := by decide +kernel
theorem dX2_howManyReach_22 : decode cX2_howManyReach 22 = .ok (.invokestatic 64, 3) := by decide +kernel
theorem dX2_howManyReach_25 : decode cX2_howManyReach 25 = .ok (.ifCond .eq 6, 3) := by decide +kernel
theorem dX2_howManyReach_28 : decode cX2_howManyReach 28 = .ok (.iinc 2 1, 3) := by decide +kernel
theorem dX2_howManyReach_31 : decode cX2_howManyReach 31 = .ok (.iinc 3 1, 3) := by decide +kernel
theorem dX2_howManyReach_34 : decode cX2_howManyReach 34 = .ok (.goto (-30), 3) := by decide +kernel
theorem dX2_howManyReach_37 : decode cX2_howManyReach 37 = .ok (.iload_n 2, 1) := by decide +kernel
theorem dX2_howManyReach_38 : decode cX2_howManyReach 38 = .ok (.ireturn, 1) := by decide +kernel
theorem dX2_howManyRings_0 : decode cX2_howManyRings 0 = .ok (.iconst 0, 1) := by decide +kernel
theorem dX2_howManyRings_1 : decode cX2_howManyRings 1 = .ok (.istore_n 1, 1) := by decide +kernel
theorem dX2_howManyRings_2 : decode cX2_howManyRings 2 = .ok (.iconst 0, 1) := by decide +kernel
theorem dX2_howManyRings_3 : decode cX2_howManyRings 3 = .ok (.istore_n 2, 1) := by decide +kernel
theorem dX2_howManyRings_4 : decode cX2_howManyRings 4 = .ok (.iload_n 2, 1) := by decide +kernel
theorem dX2_howManyRings_5 : decode cX2_howManyRings 5 = .ok (.aload_n 0, 1) := by decide +kernel
theorem dX2_howManyRings_6 : decode cX2_howManyRings 6 = .ok (.getfield 68, 3) := by decide +kernel
theorem dX2_howManyRings_9 : decode cX2_howManyRings 9 = .ok (.if_icmp .ge 28, 3) := by decide +kernel
theorem dX2_howManyRings_12 : decode cX2_howManyRings 12 = .ok (.aload_n 0, 1) := by decide +kernel
theorem dX2_howManyRings_13 : decode cX2_howManyRings 13 = .ok (.getfield 71, 3) := by decide +kernel
theorem dX2_howManyRings_16 : decode cX2_howManyRings 16 = .ok (.aload_n 0, 1) := by decide +kernel
theorem dX2_howManyRings_17 : decode cX2_howManyRings 17 = .ok (.getfield 28, 3) := by decide +kernel
theorem dX2_howManyRings_20 : decode cX2_howManyRings 20 = .ok (.iload_n 2, 1) := by decide +kernel
theorem dX2_howManyRings_21 : decode cX2_howManyRings 21 = .ok (.iaload, 1) := by decide +kernel
theorem dX2_howManyRings_22 : decode cX2_howManyRings 22 = .ok (.invokestatic 64, 3) := by decide +kernel
theorem dX2_howManyRings_25 : decode cX2_howManyRings 25 = .ok (.ifCond .eq 6, 3) := by decide +kernel
theorem dX2_howManyRings_28 : decode cX2_howManyRings 28 = .ok (.iinc 1 1, 3) := by decide +kernel
theorem dX2_howManyRings_31 : decode cX2_howManyRings 31 = .ok (.iinc 2 1, 3) := by decide +kernel
theorem dX2_howManyRings_34 : decode cX2_howManyRings 34 = .ok (.goto (-30), 3) := by decide +kernel
theorem dX2_howManyRings_37 : decode cX2_howManyRings 37 = .ok (.iload_n 1, 1) := by decide +kernel
theorem dX2_howManyRings_38 : decode cX2_howManyRings 38 = .ok (.ireturn, 1) := by decide +kernel
theorem dX2_drawCalls_0 : decode cX2_drawCalls 0 = .ok (.aload_n 0, 1) := by decide +kernel
theorem dX2_drawCalls_1 : decode cX2_drawCalls 1 = .ok (.getfield 35, 3) := by decide +kernel
theorem dX2_drawCalls_4 : decode cX2_drawCalls 4 = .ok (.getfield 74, 3) := by decide +kernel
theorem dX2_drawCalls_7 : decode cX2_drawCalls 7 = .ok (.astore_n 1, 1) := by decide +kernel
theorem dX2_drawCalls_8 : decode cX2_drawCalls 8 = .ok (.aload_n 0, 1) := by decide +kernel
theorem dX2_drawCalls_9 : decode cX2_drawCalls 9 = .ok (.getfield 39, 3) := by decide +kernel
theorem dX2_drawCalls_12 : decode cX2_drawCalls 12 = .ok (.getfield 79, 3) := by decide +kernel
theorem dX2_drawCalls_15 : decode cX2_drawCalls 15 = .ok (.astore_n 2, 1) := by decide +kernel
theorem dX2_drawCalls_16 : decode cX2_drawCalls 16 = .ok (.iconst 0, 1) := by decide +kernel
theorem dX2_drawCalls_17 : decode cX2_drawCalls 17 = .ok (.istore_n 3, 1) := by decide +kernel
theorem dX2_drawCalls_18 : decode cX2_drawCalls 18 = .ok (.iload_n 3, 1) := by decide +kernel
theorem dX2_drawCalls_19 : decode cX2_drawCalls 19 = .ok (.aload_n 0, 1) := by decide +kernel
theorem dX2_drawCalls_20 : decode cX2_drawCalls 20 = .ok (.getfield 31, 3) := by decide +kernel
theorem dX2_drawCalls_23 : decode cX2_drawCalls 23 = .ok (.getfield 58, 3) := by decide +kernel
theorem dX2_drawCalls_26 : decode cX2_drawCalls 26 = .ok (.if_icmp .ge 70, 3) := by decide +kernel
theorem dX2_drawCalls_29 : decode cX2_drawCalls 29 = .ok (.aload_n 0, 1) := by decide +kernel
theorem dX2_drawCalls_30 : decode cX2_drawCalls 30 = .ok (.getfield 15, 3) := by decide +kernel
theorem dX2_drawCalls_33 : decode cX2_drawCalls 33 = .ok (.iload_n 3, 1) := by decide +kernel
theorem dX2_drawCalls_34 : decode cX2_drawCalls 34 = .ok (.aload_n 2, 1) := by decide +kernel
theorem dX2_drawCalls_35 : decode cX2_drawCalls 35 = .ok (.iconst 0, 1) := by decide +kernel
theorem dX2_drawCalls_36 : decode cX2_drawCalls 36 = .ok (.aaload, 1) := by decide +kernel
theorem dX2_drawCalls_37 : decode cX2_drawCalls 37 = .ok (.iload_n 3, 1) := by decide +kernel
theorem dX2_drawCalls_38 : decode cX2_drawCalls 38 = .ok (.iaload, 1) := by decide +kernel
theorem dX2_drawCalls_39 : decode cX2_drawCalls 39 = .ok (.aload_n 1, 1) := by decide +kernel
theorem dX2_drawCalls_40 : decode cX2_drawCalls 40 = .ok (.aload_n 2, 1) := by decide +kernel
theorem dX2_drawCalls_41 : decode cX2_drawCalls 41 = .ok (.iconst 2, 1) := by decide +kernel
theorem dX2_drawCalls_42 : decode cX2_drawCalls 42 = .ok (.aaload, 1) := by decide +kernel
theorem dX2_drawCalls_43 : decode cX2_drawCalls 43 = .ok (.iload_n 3, 1) := by decide +kernel
theorem dX2_drawCalls_44 : decode cX2_drawCalls 44 = .ok (.iaload, 1) := by decide +kernel
theorem dX2_drawCalls_45 : decode cX2_drawCalls 45 = .ok (.invokestatic 85, 3) := by decide +kernel
theorem dX2_drawCalls_48 : decode cX2_drawCalls 48 = .ok (.ior, 1) := by decide +kernel
theorem dX2_drawCalls_49 : decode cX2_drawCalls 49 = .ok (.iastore, 1) := by decide +kernel
theorem dX2_drawCalls_50 : decode cX2_drawCalls 50 = .ok (.aload_n 0, 1) := by decide +kernel
theorem dX2_drawCalls_51 : decode cX2_drawCalls 51 = .ok (.getfield 19, 3) := by decide +kernel
theorem dX2_drawCalls_54 : decode cX2_drawCalls 54 = .ok (.iload_n 3, 1) := by decide +kernel
theorem dX2_drawCalls_55 : decode cX2_drawCalls 55 = .ok (.aload_n 2, 1) := by decide +kernel
theorem dX2_drawCalls_56 : decode cX2_drawCalls 56 = .ok (.iconst 1, 1) := by decide +kernel
theorem dX2_drawCalls_57 : decode cX2_drawCalls 57 = .ok (.aaload, 1) := by decide +kernel
theorem dX2_drawCalls_58 : decode cX2_drawCalls 58 = .ok (.iload_n 3, 1) := by decide +kernel
theorem dX2_drawCalls_59 : decode cX2_drawCalls 59 = .ok (.iaload, 1) := by decide +kernel
theorem dX2_drawCalls_60 : decode cX2_drawCalls 60 = .ok (.aload_n 1, 1) := by decide +kernel
theorem dX2_drawCalls_61 : decode cX2_drawCalls 61 = .ok (.aload_n 2, 1) := by decide +kernel
theorem dX2_drawCalls_62 : decode cX2_drawCalls 62 = .ok (.iconst 3, 1) := by decide +kernel
theorem dX2_drawCalls_63 : decode cX2_drawCalls 63 = .ok (.aaload, 1) := by decide +kernel
theorem dX2_drawCalls_64 : decode cX2_drawCalls 64 = .ok (.iload_n 3, 1) := by decide +kernel
theorem dX2_drawCalls_65 : decode cX2_drawCalls 65 = .ok (.iaload, 1) := by decide +kernel
theorem dX2_drawCalls_66 : decode cX2_drawCalls 66 = .ok (.invokestatic 85, 3) := by decide +kernel
theorem dX2_drawCalls_69 : decode cX2_drawCalls 69 = .ok (.ior, 1) := by decide +kernel
theorem dX2_drawCalls_70 : decode cX2_drawCalls 70 = .ok (.iastore, 1) := by decide +kernel
theorem dX2_drawCalls_71 : decode cX2_drawCalls 71 = .ok (.aload_n 0, 1) := by decide +kernel
theorem dX2_drawCalls_72 : decode cX2_drawCalls 72 = .ok (.getfield 22, 3) := by decide +kernel
theorem dX2_drawCalls_75 : decode cX2_drawCalls 75 = .ok (.iload_n 3, 1) := by decide +kernel
theorem dX2_drawCalls_76 : decode cX2_drawCalls 76 = .ok (.aload_n 0, 1) := by decide +kernel
theorem dX2_drawCalls_77 : decode cX2_drawCalls 77 = .ok (.getfield 15, 3) := by decide +kernel
theorem dX2_drawCalls_80 : decode cX2_drawCalls 80 = .ok (.iload_n 3, 1) := by decide +kernel
theorem dX2_drawCalls_81 : decode cX2_drawCalls 81 = .ok (.iaload, 1) := by decide +kernel
theorem dX2_drawCalls_82 : decode cX2_drawCalls 82 = .ok (.aload_n 0, 1) := by decide +kernel
theorem dX2_drawCalls_83 : decode cX2_drawCalls 83 = .ok (.getfield 19, 3) := by decide +kernel
theorem dX2_drawCalls_86 : decode cX2_drawCalls 86 = .ok (.iload_n 3, 1) := by decide +kernel
theorem dX2_drawCalls_87 : decode cX2_drawCalls 87 = .ok (.iaload, 1) := by decide +kernel
theorem dX2_drawCalls_88 : decode cX2_drawCalls 88 = .ok (.ior, 1) := by decide +kernel
theorem dX2_drawCalls_89 : decode cX2_drawCalls 89 = .ok (.iastore, 1) := by decide +kernel
theorem dX2_drawCalls_90 : decode cX2_drawCalls 90 = .ok (.iinc 3 1, 3) := by decide +kernel
theorem dX2_drawCalls_93 : decode cX2_drawCalls 93 = .ok (.goto (-75), 3) := by decide +kernel
theorem dX2_drawCalls_96 : decode cX2_drawCalls 96 = .ok (.return_, 1) := by decide +kernel
theorem dX2_closeReach_0 : decode cX2_closeReach 0 = .ok (.iconst 0, 1) := by decide +kernel
theorem dX2_closeReach_1 : decode cX2_closeReach 1 = .ok (.istore_n 1, 1) := by decide +kernel
theorem dX2_closeReach_2 : decode cX2_closeReach 2 = .ok (.iload_n 1, 1) := by decide +kernel
theorem dX2_closeReach_3 : decode cX2_closeReach 3 = .ok (.aload_n 0, 1) := by decide +kernel
theorem dX2_closeReach_4 : decode cX2_closeReach 4 = .ok (.getfield 31, 3) := by decide +kernel
theorem dX2_closeReach_7 : decode cX2_closeReach 7 = .ok (.getfield 58, 3) := by decide +kernel
theorem dX2_closeReach_10 : decode cX2_closeReach 10 = .ok (.if_icmp .ge 56, 3) := by decide +kernel
theorem dX2_closeReach_13 : decode cX2_closeReach 13 = .ok (.iconst 0, 1) := by decide +kernel
theorem dX2_closeReach_14 : decode cX2_closeReach 14 = .ok (.istore_n 2, 1) := by decide +kernel
theorem dX2_closeReach_15 : decode cX2_closeReach 15 = .ok (.iload_n 2, 1) := by decide +kernel
theorem dX2_closeReach_16 : decode cX2_closeReach 16 = .ok (.aload_n 0, 1) := by decide +kernel
theorem dX2_closeReach_17 : decode cX2_closeReach 17 = .ok (.getfield 31, 3) := by decide +kernel
theorem dX2_closeReach_20 : decode cX2_closeReach 20 = .ok (.getfield 58, 3) := by decide +kernel
theorem dX2_closeReach_23 : decode cX2_closeReach 23 = .ok (.if_icmp .ge 37, 3) := by decide +kernel
theorem dX2_closeReach_26 : decode cX2_closeReach 26 = .ok (.aload_n 0, 1) := by decide +kernel
theorem dX2_closeReach_27 : decode cX2_closeReach 27 = .ok (.getfield 22, 3) := by decide +kernel
theorem dX2_closeReach_30 : decode cX2_closeReach 30 = .ok (.iload_n 2, 1) := by decide +kernel
theorem dX2_closeReach_31 : decode cX2_closeReach 31 = .ok (.iaload, 1) := by decide +kernel
theorem dX2_closeReach_32 : decode cX2_closeReach 32 = .ok (.iload_n 1, 1) := by decide +kernel
theorem dX2_closeReach_33 : decode cX2_closeReach 33 = .ok (.invokestatic 64, 3) := by decide +kernel
theorem dX2_closeReach_36 : decode cX2_closeReach 36 = .ok (.ifCond .eq 18, 3) := by decide +kernel
theorem dX2_closeReach_39 : decode cX2_closeReach 39 = .ok (.aload_n 0, 1) := by decide +kernel
theorem dX2_closeReach_40 : decode cX2_closeReach 40 = .ok (.getfield 22, 3) := by decide +kernel
theorem dX2_closeReach_43 : decode cX2_closeReach 43 = .ok (.iload_n 2, 1) := by decide +kernel
theorem dX2_closeReach_44 : decode cX2_closeReach 44 = .ok (.dup2, 1) := by decide +kernel
theorem dX2_closeReach_45 : decode cX2_closeReach 45 = .ok (.iaload, 1) := by decide +kernel
theorem dX2_closeReach_46 : decode cX2_closeReach 46 = .ok (.aload_n 0, 1) := by decide +kernel
theorem dX2_closeReach_47 : decode cX2_closeReach 47 = .ok (.getfield 22, 3) := by decide +kernel
theorem dX2_closeReach_50 : decode cX2_closeReach 50 = .ok (.iload_n 1, 1) := by decide +kernel
theorem dX2_closeReach_51 : decode cX2_closeReach 51 = .ok (.iaload, 1) := by decide +kernel
theorem dX2_closeReach_52 : decode cX2_closeReach 52 = .ok (.ior, 1) := by decide +kernel
theorem dX2_closeReach_53 : decode cX2_closeReach 53 = .ok (.iastore, 1) := by decide +kernel
theorem dX2_closeReach_54 : decode cX2_closeReach 54 = .ok (.iinc 2 1, 3) := by decide +kernel
theorem dX2_closeReach_57 : decode cX2_closeReach 57 = .ok (.goto (-42), 3) := by decide +kernel
theorem dX2_closeReach_60 : decode cX2_closeReach 60 = .ok (.iinc 1 1, 3) := by decide +kernel
theorem dX2_closeReach_63 : decode cX2_closeReach 63 = .ok (.goto (-61), 3) := by decide +kernel
theorem dX2_closeReach_66 : decode cX2_closeReach 66 = .ok (.return_, 1) := by decide +kernel
theorem dX2_gatherTogether_0 : decode cX2_gatherTogether 0 = .ok (.iconst 0, 1) := by decide +kernel
theorem dX2_gatherTogether_1 : decode cX2_gatherTogether 1 = .ok (.istore_n 1, 1) := by decide +kernel
theorem dX2_gatherTogether_2 : decode cX2_gatherTogether 2 = .ok (.iload_n 1, 1) := by decide +kernel
theorem dX2_gatherTogether_3 : decode cX2_gatherTogether 3 = .ok (.aload_n 0, 1) := by decide +kernel
theorem dX2_gatherTogether_4 : decode cX2_gatherTogether 4 = .ok (.getfield 31, 3) := by decide +kernel
theorem dX2_gatherTogether_7 : decode cX2_gatherTogether 7 = .ok (.getfield 58, 3) := by decide +kernel
theorem dX2_gatherTogether_10 : decode cX2_gatherTogether 10 = .ok (.if_icmp .ge 75, 3) := by decide +kernel
theorem dX2_gatherTogether_13 : decode cX2_gatherTogether 13 = .ok (.aload_n 0, 1) := by decide +kernel
theorem dX2_gatherTogether_14 : decode cX2_gatherTogether 14 = .ok (.getfield 25, 3) := by decide +kernel
theorem dX2_gatherTogether_17 : decode cX2_gatherTogether 17 = .ok (.iload_n 1, 1) := by decide +kernel
theorem dX2_gatherTogether_18 : decode cX2_gatherTogether 18 = .ok (.iconst 1, 1) := by decide +kernel
theorem dX2_gatherTogether_19 : decode cX2_gatherTogether 19 = .ok (.iload_n 1, 1) := by decide +kernel
theorem dX2_gatherTogether_20 : decode cX2_gatherTogether 20 = .ok (.ishl, 1) := by decide +kernel
theorem dX2_gatherTogether_21 : decode cX2_gatherTogether 21 = .ok (.iastore, 1) := by decide +kernel
theorem dX2_gatherTogether_22 : decode cX2_gatherTogether 22 = .ok (.iconst 0, 1) := by decide +kernel
theorem dX2_gatherTogether_23 : decode cX2_gatherTogether 23 = .ok (.istore_n 2, 1) := by decide +kernel
theorem dX2_gatherTogether_24 : decode cX2_gatherTogether 24 = .ok (.iload_n 2, 1) := by decide +kernel
theorem dX2_gatherTogether_25 : decode cX2_gatherTogether 25 = .ok (.aload_n 0, 1) := by decide +kernel
theorem dX2_gatherTogether_26 : decode cX2_gatherTogether 26 = .ok (.getfield 31, 3) := by decide +kernel
theorem dX2_gatherTogether_29 : decode cX2_gatherTogether 29 = .ok (.getfield 58, 3) := by decide +kernel
theorem dX2_gatherTogether_32 : decode cX2_gatherTogether 32 = .ok (.if_icmp .ge 47, 3) := by decide +kernel
theorem dX2_gatherTogether_35 : decode cX2_gatherTogether 35 = .ok (.aload_n 0, 1) := by decide +kernel
theorem dX2_gatherTogether_36 : decode cX2_gatherTogether 36 = .ok (.getfield 22, 3) := by decide +kernel
theorem dX2_gatherTogether_39 : decode cX2_gatherTogether 39 = .ok (.iload_n 1, 1) := by decide +kernel
theorem dX2_gatherTogether_40 : decode cX2_gatherTogether 40 = .ok (.iaload, 1) := by decide +kernel
theorem dX2_gatherTogether_41 : decode cX2_gatherTogether 41 = .ok (.iload_n 2, 1) := by decide +kernel
theorem dX2_gatherTogether_42 : decode cX2_gatherTogether 42 = .ok (.invokestatic 64, 3) := by decide +kernel
theorem dX2_gatherTogether_45 : decode cX2_gatherTogether 45 = .ok (.ifCond .eq 28, 3) := by decide +kernel
theorem dX2_gatherTogether_48 : decode cX2_gatherTogether 48 = .ok (.aload_n 0, 1) := by decide +kernel
theorem dX2_gatherTogether_49 : decode cX2_gatherTogether 49 = .ok (.getfield 22, 3) := by decide +kernel
theorem dX2_gatherTogether_52 : decode cX2_gatherTogether 52 = .ok (.iload_n 2, 1) := by decide +kernel
theorem dX2_gatherTogether_53 : decode cX2_gatherTogether 53 = .ok (.iaload, 1) := by decide +kernel
theorem dX2_gatherTogether_54 : decode cX2_gatherTogether 54 = .ok (.iload_n 1, 1) := by decide +kernel
theorem dX2_gatherTogether_55 : decode cX2_gatherTogether 55 = .ok (.invokestatic 64, 3) := by decide +kernel
theorem dX2_gatherTogether_58 : decode cX2_gatherTogether 58 = .ok (.ifCond .eq 15, 3) := by decide +kernel
theorem dX2_gatherTogether_61 : decode cX2_gatherTogether 61 = .ok (.aload_n 0, 1) := by decide +kernel
theorem dX2_gatherTogether_62 : decode cX2_gatherTogether 62 = .ok (.getfield 25, 3) := by decide +kernel
theorem dX2_gatherTogether_65 : decode cX2_gatherTogether 65 = .ok (.iload_n 1, 1) := by decide +kernel
theorem dX2_gatherTogether_66 : decode cX2_gatherTogether 66 = .ok (.dup2, 1) := by decide +kernel
theorem dX2_gatherTogether_67 : decode cX2_gatherTogether 67 = .ok (.iaload, 1) := by decide +kernel
theorem dX2_gatherTogether_68 : decode cX2_gatherTogether 68 = .ok (.iconst 1, 1) := by decide +kernel
theorem dX2_gatherTogether_69 : decode cX2_gatherTogether 69 = .ok (.iload_n 2, 1) := by decide +kernel
theorem dX2_gatherTogether_70 : decode cX2_gatherTogether 70 = .ok (.ishl, 1) := by decide +kernel
theorem dX2_gatherTogether_71 : decode cX2_gatherTogether 71 = .ok (.ior, 1) := by decide +kernel
theorem dX2_gatherTogether_72 : decode cX2_gatherTogether 72 = .ok (.iastore, 1) := by decide +kernel
theorem dX2_gatherTogether_73 : decode cX2_gatherTogether 73 = .ok (.iinc 2 1, 3) := by decide +kernel
theorem dX2_gatherTogether_76 : decode cX2_gatherTogether 76 = .ok (.goto (-52), 3) := by decide +kernel
theorem dX2_gatherTogether_79 : decode cX2_gatherTogether 79 = .ok (.iinc 1 1, 3) := by decide +kernel
theorem dX2_gatherTogether_82 : decode cX2_gatherTogether 82 = .ok (.goto (-80), 3) := by decide +kernel
theorem dX2_gatherTogether_85 : decode cX2_gatherTogether 85 = .ok (.return_, 1) := by decide +kernel
theorem dX2_markRings_0 : decode cX2_markRings 0 = .ok (.aload_n 0, 1) := by decide +kernel
theorem dX2_markRings_1 : decode cX2_markRings 1 = .ok (.iconst 0, 1) := by decide +kernel
theorem dX2_markRings_2 : decode cX2_markRings 2 = .ok (.putfield 71, 3) := by decide +kernel
theorem dX2_markRings_5 : decode cX2_markRings 5 = .ok (.iconst 0, 1) := by decide +kernel
theorem dX2_markRings_6 : decode cX2_markRings 6 = .ok (.istore_n 1, 1) := by decide +kernel
theorem dX2_markRings_7 : decode cX2_markRings 7 = .ok (.iload_n 1, 1) := by decide +kernel
theorem dX2_markRings_8 : decode cX2_markRings 8 = .ok (.aload_n 0, 1) := by decide +kernel
theorem dX2_markRings_9 : decode cX2_markRings 9 = .ok (.getfield 31, 3) := by decide +kernel
theorem dX2_markRings_12 : decode cX2_markRings 12 = .ok (.getfield 58, 3) := by decide +kernel
theorem dX2_markRings_15 : decode cX2_markRings 15 = .ok (.if_icmp .ge 40, 3) := by decide +kernel
theorem dX2_markRings_18 : decode cX2_markRings 18 = .ok (.aload_n 0, 1) := by decide +kernel
theorem dX2_markRings_19 : decode cX2_markRings 19 = .ok (.getfield 15, 3) := by decide +kernel
theorem dX2_markRings_22 : decode cX2_markRings 22 = .ok (.iload_n 1, 1) := by decide +kernel
theorem dX2_markRings_23 : decode cX2_markRings 23 = .ok (.iaload, 1) := by decide +kernel
theorem dX2_markRings_24 : decode cX2_markRings 24 = .ok (.aload_n 0, 1) := by decide +kernel
theorem dX2_markRings_25 : decode cX2_markRings 25 = .ok (.getfield 25, 3) := by decide +kernel
theorem dX2_markRings_28 : decode cX2_markRings 28 = .ok (.iload_n 1, 1) := by decide +kernel
theorem dX2_markRings_29 : decode cX2_markRings 29 = .ok (.iaload, 1) := by decide +kernel
theorem dX2_markRings_30 : decode cX2_markRings 30 = .ok (.iand, 1) := by decide +kernel
theorem dX2_markRings_31 : decode cX2_markRings 31 = .ok (.ifCond .eq 18, 3) := by decide +kernel
theorem dX2_markRings_34 : decode cX2_markRings 34 = .ok (.aload_n 0, 1) := by decide +kernel
theorem dX2_markRings_35 : decode cX2_markRings 35 = .ok (.dup, 1) := by decide +kernel
theorem dX2_markRings_36 : decode cX2_markRings 36 = .ok (.getfield 71, 3) := by decide +kernel
theorem dX2_markRings_39 : decode cX2_markRings 39 = .ok (.aload_n 0, 1) := by decide +kernel
theorem dX2_markRings_40 : decode cX2_markRings 40 = .ok (.getfield 25, 3) := by decide +kernel
theorem dX2_markRings_43 : decode cX2_markRings 43 = .ok (.iload_n 1, 1) := by decide +kernel
theorem dX2_markRings_44 : decode cX2_markRings 44 = .ok (.iaload, 1) := by decide +kernel
theorem dX2_markRings_45 : decode cX2_markRings 45 = .ok (.ior, 1) := by decide +kernel
theorem dX2_markRings_46 : decode cX2_markRings 46 = .ok (.putfield 71, 3) := by decide +kernel
theorem dX2_markRings_49 : decode cX2_markRings 49 = .ok (.iinc 1 1, 3) := by decide +kernel
theorem dX2_markRings_52 : decode cX2_markRings 52 = .ok (.goto (-45), 3) := by decide +kernel
theorem dX2_markRings_55 : decode cX2_markRings 55 = .ok (.return_, 1) := by decide +kernel
theorem dX2_orderLeaders_0 : decode cX2_orderLeaders 0 = .ok (.aload_n 0, 1) := by decide +kernel
theorem dX2_orderLeaders_1 : decode cX2_orderLeaders 1 = .ok (.iconst 0, 1) := by decide +kernel
theorem dX2_orderLeaders_2 : decode cX2_orderLeaders 2 = .ok (.putfield 68, 3) := by decide +kernel
theorem dX2_orderLeaders_5 : decode cX2_orderLeaders 5 = .ok (.iconst 1, 1) := by decide +kernel
theorem dX2_orderLeaders_6 : decode cX2_orderLeaders 6 = .ok (.istore_n 1, 1) := by decide +kernel
theorem dX2_orderLeaders_7 : decode cX2_orderLeaders 7 = .ok (.iload_n 1, 1) := by decide +kernel
theorem dX2_orderLeaders_8 : decode cX2_orderLeaders 8 = .ok (.aload_n 0, 1) := by decide +kernel
theorem dX2_orderLeaders_9 : decode cX2_orderLeaders 9 = .ok (.getfield 31, 3) := by decide +kernel
theorem dX2_orderLeaders_12 : decode cX2_orderLeaders 12 = .ok (.getfield 58, 3) := by decide +kernel
theorem dX2_orderLeaders_15 : decode cX2_orderLeaders 15 = .ok (.if_icmp .gt 73, 3) := by decide +kernel
theorem dX2_orderLeaders_18 : decode cX2_orderLeaders 18 = .ok (.iconst 0, 1) := by decide +kernel
theorem dX2_orderLeaders_19 : decode cX2_orderLeaders 19 = .ok (.istore_n 2, 1) := by decide +kernel
theorem dX2_orderLeaders_20 : decode cX2_orderLeaders 20 = .ok (.iload_n 2, 1) := by decide +kernel
theorem dX2_orderLeaders_21 : decode cX2_orderLeaders 21 = .ok (.aload_n 0, 1) := by decide +kernel
theorem dX2_orderLeaders_22 : decode cX2_orderLeaders 22 = .ok (.getfield 31, 3) := by decide +kernel
theorem dX2_orderLeaders_25 : decode cX2_orderLeaders 25 = .ok (.getfield 58, 3) := by decide +kernel
theorem dX2_orderLeaders_28 : decode cX2_orderLeaders 28 = .ok (.if_icmp .ge 54, 3) := by decide +kernel
theorem dX2_orderLeaders_31 : decode cX2_orderLeaders 31 = .ok (.aload_n 0, 1) := by decide +kernel
theorem dX2_orderLeaders_32 : decode cX2_orderLeaders 32 = .ok (.getfield 25, 3) := by decide +kernel
theorem dX2_orderLeaders_35 : decode cX2_orderLeaders 35 = .ok (.iload_n 2, 1) := by decide +kernel
theorem dX2_orderLeaders_36 : decode cX2_orderLeaders 36 = .ok (.iaload, 1) := by decide +kernel
theorem dX2_orderLeaders_37 : decode cX2_orderLeaders 37 = .ok (.invokestatic 89, 3) := by decide +kernel
theorem dX2_orderLeaders_40 : decode cX2_orderLeaders 40 = .ok (.iload_n 2, 1) := by decide +kernel
theorem dX2_orderLeaders_41 : decode cX2_orderLeaders 41 = .ok (.if_icmp .ne 35, 3) := by decide +kernel
theorem dX2_orderLeaders_44 : decode cX2_orderLeaders 44 = .ok (.aload_n 0, 1) := by decide +kernel
theorem dX2_orderLeaders_45 : decode cX2_orderLeaders 45 = .ok (.iload_n 2, 1) := by decide +kernel
theorem dX2_orderLeaders_46 : decode cX2_orderLeaders 46 = .ok (.invokevirtual 93, 3) := by decide +kernel
theorem dX2_orderLeaders_49 : decode cX2_orderLeaders 49 = .ok (.invokestatic 96, 3) := by decide +kernel
theorem dX2_orderLeaders_52 : decode cX2_orderLeaders 52 = .ok (.iload_n 1, 1) := by decide +kernel
theorem dX2_orderLeaders_53 : decode cX2_orderLeaders 53 = .ok (.if_icmp .ne 23, 3) := by decide +kernel
theorem dX2_orderLeaders_56 : decode cX2_orderLeaders 56 = .ok (.aload_n 0, 1) := by decide +kernel
theorem dX2_orderLeaders_57 : decode cX2_orderLeaders 57 = .ok (.getfield 28, 3) := by decide +kernel
theorem dX2_orderLeaders_60 : decode cX2_orderLeaders 60 = .ok (.aload_n 0, 1) := by decide +kernel
theorem dX2_orderLeaders_61 : decode cX2_orderLeaders 61 = .ok (.getfield 68, 3) := by decide +kernel
theorem dX2_orderLeaders_64 : decode cX2_orderLeaders 64 = .ok (.iload_n 2, 1) := by decide +kernel
theorem dX2_orderLeaders_65 : decode cX2_orderLeaders 65 = .ok (.iastore, 1) := by decide +kernel
theorem dX2_orderLeaders_66 : decode cX2_orderLeaders 66 = .ok (.aload_n 0, 1) := by decide +kernel
theorem dX2_orderLeaders_67 : decode cX2_orderLeaders 67 = .ok (.dup, 1) := by decide +kernel
theorem dX2_orderLeaders_68 : decode cX2_orderLeaders 68 = .ok (.getfield 68, 3) := by decide +kernel
theorem dX2_orderLeaders_71 : decode cX2_orderLeaders 71 = .ok (.iconst 1, 1) := by decide +kernel
theorem dX2_orderLeaders_72 : decode cX2_orderLeaders 72 = .ok (.iadd, 1) := by decide +kernel
theorem dX2_orderLeaders_73 : decode cX2_orderLeaders 73 = .ok (.putfield 68, 3) := by decide +kernel
theorem dX2_orderLeaders_76 : decode cX2_orderLeaders 76 = .ok (.iinc 2 1, 3) := by decide +kernel
theorem dX2_orderLeaders_79 : decode cX2_orderLeaders 79 = .ok (.goto (-59), 3) := by decide +kernel
theorem dX2_orderLeaders_82 : decode cX2_orderLeaders 82 = .ok (.iinc 1 1, 3) := by decide +kernel
theorem dX2_orderLeaders_85 : decode cX2_orderLeaders 85 = .ok (.goto (-78), 3) := by decide +kernel
theorem dX2_orderLeaders_88 : decode cX2_orderLeaders 88 = .ok (.return_, 1) := by decide +kernel
theorem dX3_init_0 : decode cX3_init 0 = .ok (.aload_n 0, 1) := by decide +kernel
theorem dX3_init_1 : decode cX3_init 1 = .ok (.invokespecial 3, 3) := by decide +kernel
theorem dX3_init_4 : decode cX3_init 4 = .ok (.aload_n 0, 1) := by decide +kernel
theorem dX3_init_5 : decode cX3_init 5 = .ok (.bipush 8, 2) := by decide +kernel
theorem dX3_init_7 : decode cX3_init 7 = .ok (.newarray .int, 2) := by decide +kernel
theorem dX3_init_9 : decode cX3_init 9 = .ok (.putfield 9, 3) := by decide +kernel
theorem dX3_init_12 : decode cX3_init 12 = .ok (.aload_n 0, 1) := by decide +kernel
theorem dX3_init_13 : decode cX3_init 13 = .ok (.bipush 8, 2) := by decide +kernel
theorem dX3_init_15 : decode cX3_init 15 = .ok (.newarray .int, 2) := by decide +kernel
theorem dX3_init_17 : decode cX3_init 17 = .ok (.putfield 15, 3) := by decide +kernel
theorem dX3_init_20 : decode cX3_init 20 = .ok (.aload_n 0, 1) := by decide +kernel
theorem dX3_init_21 : decode cX3_init 21 = .ok (.bipush 8, 2) := by decide +kernel
theorem dX3_init_23 : decode cX3_init 23 = .ok (.newarray .int, 2) := by decide +kernel
theorem dX3_init_25 : decode cX3_init 25 = .ok (.putfield 18, 3) := by decide +kernel
theorem dX3_init_28 : decode cX3_init 28 = .ok (.return_, 1) := by decide +kernel
theorem dX3_add_0 : decode cX3_add 0 = .ok (.aload_n 0, 1) := by decide +kernel
theorem dX3_add_1 : decode cX3_add 1 = .ok (.getfield 9, 3) := by decide +kernel
theorem dX3_add_4 : decode cX3_add 4 = .ok (.aload_n 0, 1) := by decide +kernel
theorem dX3_add_5 : decode cX3_add 5 = .ok (.getfield 21, 3) := by decide +kernel
theorem dX3_add_8 : decode cX3_add 8 = .ok (.iload_n 1, 1) := by decide +kernel
theorem dX3_add_9 : decode cX3_add 9 = .ok (.iastore, 1) := by decide +kernel
theorem dX3_add_10 : decode cX3_add 10 = .ok (.aload_n 0, 1) := by decide +kernel
theorem dX3_add_11 : decode cX3_add 11 = .ok (.getfield 15, 3) := by decide +kernel
theorem dX3_add_14 : decode cX3_add 14 = .ok (.aload_n 0, 1) := by decide +kernel
theorem dX3_add_15 : decode cX3_add 15 = .ok (.getfield 21, 3) := by decide +kernel
theorem dX3_add_18 : decode cX3_add 18 = .ok (.iload_n 2, 1) := by decide +kernel
theorem dX3_add_19 : decode cX3_add 19 = .ok (.iastore, 1) := by decide +kernel
theorem dX3_add_20 : decode cX3_add 20 = .ok (.aload_n 0, 1) := by decide +kernel
theorem dX3_add_21 : decode cX3_add 21 = .ok (.getfield 18, 3) := by decide +kernel
theorem dX3_add_24 : decode cX3_add 24 = .ok (.aload_n 0, 1) := by decide +kernel
theorem dX3_add_25 : decode cX3_add 25 = .ok (.getfield 21, 3) := by decide +kernel
theorem dX3_add_28 : decode cX3_add 28 = .ok (.iload_n 3, 1) := by decide +kernel
theorem dX3_add_29 : decode cX3_add 29 = .ok (.iastore, 1) := by decide +kernel
theorem dX3_add_30 : decode cX3_add 30 = .ok (.aload_n 0, 1) := by decide +kernel
theorem dX3_add_31 : decode cX3_add 31 = .ok (.dup, 1) := by decide +kernel
theorem dX3_add_32 : decode cX3_add 32 = .ok (.getfield 21, 3) := by decide +kernel
theorem dX3_add_35 : decode cX3_add 35 = .ok (.iconst 1, 1) := by decide +kernel
theorem dX3_add_36 : decode cX3_add 36 = .ok (.iadd, 1) := by decide +kernel
theorem dX3_add_37 : decode cX3_add 37 = .ok (.putfield 21, 3) := by decide +kernel
theorem dX3_add_40 : decode cX3_add 40 = .ok (.aload_n 0, 1) := by decide +kernel
theorem dX3_add_41 : decode cX3_add 41 = .ok (.getfield 21, 3) := by decide +kernel
theorem dX3_add_44 : decode cX3_add 44 = .ok (.iconst 1, 1) := by decide +kernel
theorem dX3_add_45 : decode cX3_add 45 = .ok (.isub, 1) := by decide +kernel
theorem dX3_add_46 : decode cX3_add 46 = .ok (.ireturn, 1) := by decide +kernel
theorem dX3_topAbove_0 : decode cX3_topAbove 0 = .ok (.iconst 0, 1) := by decide +kernel
theorem dX3_topAbove_1 : decode cX3_topAbove 1 = .ok (.istore_n 3, 1) := by decide +kernel
theorem dX3_topAbove_2 : decode cX3_topAbove 2 = .ok (.iload_n 1, 1) := by decide +kernel
theorem dX3_topAbove_3 : decode cX3_topAbove 3 = .ok (.iconst 1, 1) := by decide +kernel
theorem dX3_topAbove_4 : decode cX3_topAbove 4 = .ok (.iadd, 1) := by decide +kernel
theorem dX3_topAbove_5 : decode cX3_topAbove 5 = .ok (.istore 4, 2) := by decide +kernel
theorem dX3_topAbove_7 : decode cX3_topAbove 7 = .ok (.iload 4, 2) := by decide +kernel
theorem dX3_topAbove_9 : decode cX3_topAbove 9 = .ok (.bipush 7, 2) := by decide +kernel
theorem dX3_topAbove_11 : decode cX3_topAbove 11 = .ok (.if_icmp .gt 21, 3) := by decide +kernel
theorem dX3_topAbove_14 : decode cX3_topAbove 14 = .ok (.iload_n 3, 1) := by decide +kernel
theorem dX3_topAbove_15 : decode cX3_topAbove 15 = .ok (.aload_n 0, 1) := by decide +kernel
theorem dX3_topAbove_16 : decode cX3_topAbove 16 = .ok (.iload 4, 2) := by decide +kernel
theorem dX3_topAbove_18 : decode cX3_topAbove 18 = .ok (.aload_n 2, 1) := by decide +kernel
theorem dX3_topAbove_19 : decode cX3_topAbove 19 = .ok (.invokevirtual 25, 3) := by decide +kernel
theorem dX3_topAbove_22 : decode cX3_topAbove 22 = .ok (.invokestatic 29, 3) := by decide +kernel
theorem dX3_topAbove_25 : decode cX3_topAbove 25 = .ok (.istore_n 3, 1) := by decide +kernel
theorem dX3_topAbove_26 : decode cX3_topAbove 26 = .ok (.iinc 4 1, 3) := by decide +kernel
theorem dX3_topAbove_29 : decode cX3_topAbove 29 = .ok (.goto (-22), 3) := by decide +kernel
theorem dX3_topAbove_32 : decode cX3_topAbove 32 = .ok (.iload_n 3, 1) := by decide +kernel
theorem dX3_topAbove_33 : decode cX3_topAbove 33 = .ok (.ireturn, 1) := by decide +kernel
theorem dX3_greatestAt_0 : decode cX3_greatestAt 0 = .ok (.iconst 0, 1) := by decide +kernel
theorem dX3_greatestAt_1 : decode cX3_greatestAt 1 = .ok (.istore_n 3, 1) := by decide +kernel
theorem dX3_greatestAt_2 : decode cX3_greatestAt 2 = .ok (.iconst 0, 1) := by decide +kernel
theorem dX3_greatestAt_3 : decode cX3_greatestAt 3 = .ok (.istore 4, 2) := by decide +kernel
theorem dX3_greatestAt_5 : decode cX3_greatestAt 5 = .ok (.iload 4, 2) := by decide +kernel
theorem dX3_greatestAt_7 : decode cX3_greatestAt 7 = .ok (.aload_n 0, 1) := by decide +kernel
theorem dX3_greatestAt_8 : decode cX3_greatestAt 8 = .ok (.getfield 21, 3) := by decide +kernel
theorem dX3_greatestAt_11 : decode cX3_greatestAt 11 = .ok (.if_icmp .ge 44, 3) := by decide +kernel
theorem dX3_greatestAt_14 : decode cX3_greatestAt 14 = .ok (.aload_n 0, 1) := by decide +kernel
theorem dX3_greatestAt_15 : decode cX3_greatestAt 15 = .ok (.getfield 9, 3) := by decide +kernel
theorem dX3_greatestAt_18 : decode cX3_greatestAt 18 = .ok (.iload 4, 2) := by decide +kernel
theorem dX3_greatestAt_20 : decode cX3_greatestAt 20 = .ok (.iaload, 1) := by decide +kernel
theorem dX3_greatestAt_21 : decode cX3_greatestAt 21 = .ok (.iload_n 1, 1) := by decide +kernel
theorem dX3_greatestAt_22 : decode cX3_greatestAt 22 = .ok (.if_icmp .ne 27, 3) := by decide +kernel
theorem dX3_greatestAt_25 : decode cX3_greatestAt 25 = .ok (.iload_n 3, 1) := by decide +kernel
theorem dX3_greatestAt_26 : decode cX3_greatestAt 26 = .ok (.aload_n 0, 1) := by decide +kernel
theorem dX3_greatestAt_27 : decode cX3_greatestAt 27 = .ok (.getfield 18, 3) := by decide +kernel
theorem dX3_greatestAt_30 : decode cX3_greatestAt 30 = .ok (.iload 4, 2) := by decide +kernel
theorem dX3_greatestAt_32 : decode cX3_greatestAt 32 = .ok (.iaload, 1) := by decide +kernel
theorem dX3_greatestAt_33 : decode cX3_greatestAt 33 = .ok (.aload_n 2, 1) := by decide +kernel
theorem dX3_greatestAt_34 : decode cX3_greatestAt 34 = .ok (.aload_n 0, 1) := by decide +kernel
theorem dX3_greatestAt_35 : decode cX3_greatestAt 35 = .ok (.getfield 15, 3) := by decide +kernel
theorem dX3_greatestAt_38 : decode cX3_greatestAt 38 = .ok (.iload 4, 2) := by decide +kernel
theorem dX3_greatestAt_40 : decode cX3_greatestAt 40 = .ok (.iaload, 1) := by decide +kernel
theorem dX3_greatestAt_41 : decode cX3_greatestAt 41 = .ok (.iaload, 1) := by decide +kernel
theorem dX3_greatestAt_42 : decode cX3_greatestAt 42 = .ok (.invokestatic 29, 3) := by decide +kernel
theorem dX3_greatestAt_45 : decode cX3_greatestAt 45 = .ok (.invokestatic 33, 3) := by decide +kernel
theorem dX3_greatestAt_48 : decode cX3_greatestAt 48 = .ok (.istore_n 3, 1) := by decide +kernel
theorem dX3_greatestAt_49 : decode cX3_greatestAt 49 = .ok (.iinc 4 1, 3) := by decide +kernel
theorem dX3_greatestAt_52 : decode cX3_greatestAt 52 = .ok (.goto (-47), 3) := by decide +kernel
theorem dX3_greatestAt_55 : decode cX3_greatestAt 55 = .ok (.iload_n 3, 1) := by decide +kernel
theorem dX3_greatestAt_56 : decode cX3_greatestAt 56 = .ok (.ireturn, 1) := by decide +kernel
theorem dX4_init_0 : decode cX4_init 0 = .ok (.aload_n 0, 1) := by decide +kernel
theorem dX4_init_1 : decode cX4_init 1 = .ok (.invokespecial 3, 3) := by decide +kernel
theorem dX4_init_4 : decode cX4_init 4 = .ok (.aload_n 0, 1) := by decide +kernel
theorem dX4_init_5 : decode cX4_init 5 = .ok (.bipush 8, 2) := by decide +kernel
theorem dX4_init_7 : decode cX4_init 7 = .ok (.newarray .int, 2) := by decide +kernel
theorem dX4_init_9 : decode cX4_init 9 = .ok (.putfield 9, 3) := by decide +kernel
theorem dX4_init_12 : decode cX4_init 12 = .ok (.aload_n 0, 1) := by decide +kernel
theorem dX4_init_13 : decode cX4_init 13 = .ok (.bipush 8, 2) := by decide +kernel
theorem dX4_init_15 : decode cX4_init 15 = .ok (.newarray .int, 2) := by decide +kernel
theorem dX4_init_17 : decode cX4_init 17 = .ok (.putfield 15, 3) := by decide +kernel
theorem dX4_init_20 : decode cX4_init 20 = .ok (.aload_n 0, 1) := by decide +kernel
theorem dX4_init_21 : decode cX4_init 21 = .ok (.bipush 8, 2) := by decide +kernel
theorem dX4_init_23 : decode cX4_init 23 = .ok (.newarray .int, 2) := by decide +kernel
theorem dX4_init_25 : decode cX4_init 25 = .ok (.putfield 18, 3) := by decide +kernel
theorem dX4_init_28 : decode cX4_init 28 = .ok (.return_, 1) := by decide +kernel
theorem dX4_addTaken_0 : decode cX4_addTaken 0 = .ok (.aload_n 0, 1) := by decide +kernel
theorem dX4_addTaken_1 : decode cX4_addTaken 1 = .ok (.getfield 9, 3) := by decide +kernel
theorem dX4_addTaken_4 : decode cX4_addTaken 4 = .ok (.iload_n 1, 1) := by decide +kernel
theorem dX4_addTaken_5 : decode cX4_addTaken 5 = .ok (.dup2, 1) := by decide +kernel
theorem dX4_addTaken_6 : decode cX4_addTaken 6 = .ok (.iaload, 1) := by decide +kernel
theorem dX4_addTaken_7 : decode cX4_addTaken 7 = .ok (.iconst 1, 1) := by decide +kernel
theorem dX4_addTaken_8 : decode cX4_addTaken 8 = .ok (.iload_n 2, 1) := by decide +kernel
theorem dX4_addTaken_9 : decode cX4_addTaken 9 = .ok (.ishl, 1) := by decide +kernel
theorem dX4_addTaken_10 : decode cX4_addTaken 10 = .ok (.ior, 1) := by decide +kernel
theorem dX4_addTaken_11 : decode cX4_addTaken 11 = .ok (.iastore, 1) := by decide +kernel
theorem dX4_addTaken_12 : decode cX4_addTaken 12 = .ok (.aload_n 0, 1) := by decide +kernel
theorem dX4_addTaken_13 : decode cX4_addTaken 13 = .ok (.invokevirtual 21, 3) := by decide +kernel
theorem dX4_addTaken_16 : decode cX4_addTaken 16 = .ok (.return_, 1) := by decide +kernel
theorem dX4_addSource_0 : decode cX4_addSource 0 = .ok (.aload_n 0, 1) := by decide +kernel
theorem dX4_addSource_1 : decode cX4_addSource 1 = .ok (.getfield 15, 3) := by decide +kernel
theorem dX4_addSource_4 : decode cX4_addSource 4 = .ok (.iload_n 1, 1) := by decide +kernel
theorem dX4_addSource_5 : decode cX4_addSource 5 = .ok (.dup2, 1) := by decide +kernel
theorem dX4_addSource_6 : decode cX4_addSource 6 = .ok (.iaload, 1) := by decide +kernel
theorem dX4_addSource_7 : decode cX4_addSource 7 = .ok (.iconst 1, 1) := by decide +kernel
theorem dX4_addSource_8 : decode cX4_addSource 8 = .ok (.iload_n 2, 1) := by decide +kernel
theorem dX4_addSource_9 : decode cX4_addSource 9 = .ok (.ishl, 1) := by decide +kernel
theorem dX4_addSource_10 : decode cX4_addSource 10 = .ok (.ior, 1) := by decide +kernel
theorem dX4_addSource_11 : decode cX4_addSource 11 = .ok (.iastore, 1) := by decide +kernel
theorem dX4_addSource_12 : decode cX4_addSource 12 = .ok (.aload_n 0, 1) := by decide +kernel
theorem dX4_addSource_13 : decode cX4_addSource 13 = .ok (.invokevirtual 21, 3) := by decide +kernel
theorem dX4_addSource_16 : decode cX4_addSource 16 = .ok (.return_, 1) := by decide +kernel
theorem dX4_spreadGoals_0 : decode cX4_spreadGoals 0 = .ok (.iconst 0, 1) := by decide +kernel
theorem dX4_spreadGoals_1 : decode cX4_spreadGoals 1 = .ok (.istore_n 1, 1) := by decide +kernel
theorem dX4_spreadGoals_2 : decode cX4_spreadGoals 2 = .ok (.iload_n 1, 1) := by decide +kernel
theorem dX4_spreadGoals_3 : decode cX4_spreadGoals 3 = .ok (.bipush 8, 2) := by decide +kernel
theorem dX4_spreadGoals_5 : decode cX4_spreadGoals 5 = .ok (.if_icmp .ge 52, 3) := by decide +kernel
theorem dX4_spreadGoals_8 : decode cX4_spreadGoals 8 = .ok (.iconst 0, 1) := by decide +kernel
theorem dX4_spreadGoals_9 : decode cX4_spreadGoals 9 = .ok (.istore_n 2, 1) := by decide +kernel
theorem dX4_spreadGoals_10 : decode cX4_spreadGoals 10 = .ok (.iload_n 2, 1) := by decide +kernel
theorem dX4_spreadGoals_11 : decode cX4_spreadGoals 11 = .ok (.bipush 8, 2) := by decide +kernel
theorem dX4_spreadGoals_13 : decode cX4_spreadGoals 13 = .ok (.if_icmp .ge 38, 3) := by decide +kernel
theorem dX4_spreadGoals_16 : decode cX4_spreadGoals 16 = .ok (.aload_n 0, 1) := by decide +kernel
theorem dX4_spreadGoals_17 : decode cX4_spreadGoals 17 = .ok (.getfield 18, 3) := by decide +kernel
theorem dX4_spreadGoals_20 : decode cX4_spreadGoals 20 = .ok (.iload_n 2, 1) := by decide +kernel
theorem dX4_spreadGoals_21 : decode cX4_spreadGoals 21 = .ok (.dup2, 1) := by decide +kernel
theorem dX4_spreadGoals_22 : decode cX4_spreadGoals 22 = .ok (.iaload, 1) := by decide +kernel
theorem dX4_spreadGoals_23 : decode cX4_spreadGoals 23 = .ok (.aload_n 0, 1) := by decide +kernel
theorem dX4_spreadGoals_24 : decode cX4_spreadGoals 24 = .ok (.getfield 9, 3) := by decide +kernel
theorem dX4_spreadGoals_27 : decode cX4_spreadGoals 27 = .ok (.iload_n 2, 1) := by decide +kernel
theorem dX4_spreadGoals_28 : decode cX4_spreadGoals 28 = .ok (.iaload, 1) := by decide +kernel
theorem dX4_spreadGoals_29 : decode cX4_spreadGoals 29 = .ok (.aload_n 0, 1) := by decide +kernel
theorem dX4_spreadGoals_30 : decode cX4_spreadGoals 30 = .ok (.getfield 18, 3) := by decide +kernel
theorem dX4_spreadGoals_33 : decode cX4_spreadGoals 33 = .ok (.aload_n 0, 1) := by decide +kernel
theorem dX4_spreadGoals_34 : decode cX4_spreadGoals 34 = .ok (.getfield 15, 3) := by decide +kernel
theorem dX4_spreadGoals_37 : decode cX4_spreadGoals 37 = .ok (.iload_n 2, 1) := by decide +kernel
theorem dX4_spreadGoals_38 : decode cX4_spreadGoals 38 = .ok (.iaload, 1) := by decide +kernel
theorem dX4_spreadGoals_39 : decode cX4_spreadGoals 39 = .ok (.invokestatic 24, 3) := by decide +kernel
theorem dX4_spreadGoals_42 : decode cX4_spreadGoals 42 = .ok (.ior, 1) := by decide +kernel
theorem dX4_spreadGoals_43 : decode cX4_spreadGoals 43 = .ok (.ior, 1) := by decide +kernel
theorem dX4_spreadGoals_44 : decode cX4_spreadGoals 44 = .ok (.iastore, 1) := by decide +kernel
theorem dX4_spreadGoals_45 : decode cX4_spreadGoals 45 = .ok (.iinc 2 1, 3) := by decide +kernel
theorem dX4_spreadGoals_48 : decode cX4_spreadGoals 48 = .ok (.goto (-38), 3) := by decide +kernel
theorem dX4_spreadGoals_51 : decode cX4_spreadGoals 51 = .ok (.iinc 1 1, 3) := by decide +kernel
theorem dX4_spreadGoals_54 : decode cX4_spreadGoals 54 = .ok (.goto (-52), 3) := by decide +kernel
theorem dX4_spreadGoals_57 : decode cX4_spreadGoals 57 = .ok (.return_, 1) := by decide +kernel
theorem dX4_unionOf_0 : decode cX4_unionOf 0 = .ok (.iconst 0, 1) := by decide +kernel
theorem dX4_unionOf_1 : decode cX4_unionOf 1 = .ok (.istore_n 2, 1) := by decide +kernel
theorem dX4_unionOf_2 : decode cX4_unionOf 2 = .ok (.iconst 0, 1) := by decide +kernel
theorem dX4_unionOf_3 : decode cX4_unionOf 3 = .ok (.istore_n 3, 1) := by decide +kernel
theorem dX4_unionOf_4 : decode cX4_unionOf 4 = .ok (.iload_n 3, 1) := by decide +kernel
theorem dX4_unionOf_5 : decode cX4_unionOf 5 = .ok (.bipush 8, 2) := by decide +kernel
theorem dX4_unionOf_7 : decode cX4_unionOf 7 = .ok (.if_icmp .ge 23, 3) := by decide +kernel
theorem dX4_unionOf_10 : decode cX4_unionOf 10 = .ok (.iload_n 1, 1) := by decide +kernel
theorem dX4_unionOf_11 : decode cX4_unionOf 11 = .ok (.iload_n 3, 1) := by decide +kernel
theorem dX4_unionOf_12 : decode cX4_unionOf 12 = .ok (.invokestatic 28, 3) := by decide +kernel
theorem dX4_unionOf_15 : decode cX4_unionOf 15 = .ok (.ifCond .eq 9, 3) := by decide +kernel
theorem dX4_unionOf_18 : decode cX4_unionOf 18 = .ok (.iload_n 2, 1) := by decide +kernel
theorem dX4_unionOf_19 : decode cX4_unionOf 19 = .ok (.aload_n 0, 1) := by decide +kernel
theorem dX4_unionOf_20 : decode cX4_unionOf 20 = .ok (.iload_n 3, 1) := by decide +kernel
theorem dX4_unionOf_21 : decode cX4_unionOf 21 = .ok (.iaload, 1) := by decide +kernel
theorem dX4_unionOf_22 : decode cX4_unionOf 22 = .ok (.ior, 1) := by decide +kernel
theorem dX4_unionOf_23 : decode cX4_unionOf 23 = .ok (.istore_n 2, 1) := by decide +kernel
theorem dX4_unionOf_24 : decode cX4_unionOf 24 = .ok (.iinc 3 1, 3) := by decide +kernel
theorem dX4_unionOf_27 : decode cX4_unionOf 27 = .ok (.goto (-23), 3) := by decide +kernel
theorem dX4_unionOf_30 : decode cX4_unionOf 30 = .ok (.iload_n 2, 1) := by decide +kernel
theorem dX4_unionOf_31 : decode cX4_unionOf 31 = .ok (.ireturn, 1) := by decide +kernel
theorem dX5_init_0 : decode cX5_init 0 = .ok (.aload_n 0, 1) := by decide +kernel
theorem dX5_init_1 : decode cX5_init 1 = .ok (.invokespecial 3, 3) := by decide +kernel
theorem dX5_init_4 : decode cX5_init 4 = .ok (.aload_n 0, 1) := by decide +kernel
theorem dX5_init_5 : decode cX5_init 5 = .ok (.bipush 20, 2) := by decide +kernel
theorem dX5_init_7 : decode cX5_init 7 = .ok (.newarray .int, 2) := by decide +kernel
theorem dX5_init_9 : decode cX5_init 9 = .ok (.putfield 9, 3) := by decide +kernel
theorem dX5_init_12 : decode cX5_init 12 = .ok (.aload_n 0, 1) := by decide +kernel
theorem dX5_init_13 : decode cX5_init 13 = .ok (.bipush 20, 2) := by decide +kernel
theorem dX5_init_15 : decode cX5_init 15 = .ok (.newarray .int, 2) := by decide +kernel
theorem dX5_init_17 : decode cX5_init 17 = .ok (.putfield 15, 3) := by decide +kernel
theorem dX5_init_20 : decode cX5_init 20 = .ok (.return_, 1) := by decide +kernel
theorem dX5_add_0 : decode cX5_add 0 = .ok (.aload_n 0, 1) := by decide +kernel
theorem dX5_add_1 : decode cX5_add 1 = .ok (.getfield 9, 3) := by decide +kernel
theorem dX5_add_4 : decode cX5_add 4 = .ok (.aload_n 0, 1) := by decide +kernel
theorem dX5_add_5 : decode cX5_add 5 = .ok (.getfield 18, 3) := by decide +kernel
theorem dX5_add_8 : decode cX5_add 8 = .ok (.iload_n 1, 1) := by decide +kernel
theorem dX5_add_9 : decode cX5_add 9 = .ok (.iastore, 1) := by decide +kernel
theorem dX5_add_10 : decode cX5_add 10 = .ok (.aload_n 0, 1) := by decide +kernel
theorem dX5_add_11 : decode cX5_add 11 = .ok (.dup, 1) := by decide +kernel
theorem dX5_add_12 : decode cX5_add 12 = .ok (.getfield 18, 3) := by decide +kernel
theorem dX5_add_15 : decode cX5_add 15 = .ok (.iconst 1, 1) := by decide +kernel
theorem dX5_add_16 : decode cX5_add 16 = .ok (.iadd, 1) := by decide +kernel
theorem dX5_add_17 : decode cX5_add 17 = .ok (.putfield 18, 3) := by decide +kernel
theorem dX5_add_20 : decode cX5_add 20 = .ok (.aload_n 0, 1) := by decide +kernel
theorem dX5_add_21 : decode cX5_add 21 = .ok (.getfield 18, 3) := by decide +kernel
theorem dX5_add_24 : decode cX5_add 24 = .ok (.iconst 1, 1) := by decide +kernel
theorem dX5_add_25 : decode cX5_add 25 = .ok (.isub, 1) := by decide +kernel
theorem dX5_add_26 : decode cX5_add 26 = .ok (.ireturn, 1) := by decide +kernel
theorem dX5_withoutTurns_0 : decode cX5_withoutTurns 0 = .ok (.iconst 0, 1) := by decide +kernel
theorem dX5_withoutTurns_1 : decode cX5_withoutTurns 1 = .ok (.istore_n 1, 1) := by decide +kernel
theorem dX5_withoutTurns_2 : decode cX5_withoutTurns 2 = .ok (.iconst 0, 1) := by decide +kernel
theorem dX5_withoutTurns_3 : decode cX5_withoutTurns 3 = .ok (.istore_n 2, 1) := by decide +kernel
theorem dX5_withoutTurns_4 : decode cX5_withoutTurns 4 = .ok (.iload_n 2, 1) := by decide +kernel
theorem dX5_withoutTurns_5 : decode cX5_withoutTurns 5 = .ok (.aload_n 0, 1) := by decide +kernel
theorem dX5_withoutTurns_6 : decode cX5_withoutTurns 6 = .ok (.getfield 18, 3) := by decide +kernel
theorem dX5_withoutTurns_9 : decode cX5_withoutTurns 9 = .ok (.if_icmp .ge 24, 3) := by decide +kernel
theorem dX5_withoutTurns_12 : decode cX5_withoutTurns 12 = .ok (.aload_n 0, 1) := by decide +kernel
theorem dX5_withoutTurns_13 : decode cX5_withoutTurns 13 = .ok (.getfield 15, 3) := by decide +kernel
theorem dX5_withoutTurns_16 : decode cX5_withoutTurns 16 = .ok (.iload_n 2, 1) := by decide +kernel
theorem dX5_withoutTurns_17 : decode cX5_withoutTurns 17 = .ok (.iaload, 1) := by decide +kernel
theorem dX5_withoutTurns_18 : decode cX5_withoutTurns 18 = .ok (.ifCond .ne 9, 3) := by decide +kernel
theorem dX5_withoutTurns_21 : decode cX5_withoutTurns 21 = .ok (.iload_n 1, 1) := by decide +kernel
theorem dX5_withoutTurns_22 : decode cX5_withoutTurns 22 = .ok (.iconst 1, 1) := by decide +kernel
theorem dX5_withoutTurns_23 : decode cX5_withoutTurns 23 = .ok (.iload_n 2, 1) := by decide +kernel
theorem dX5_withoutTurns_24 : decode cX5_withoutTurns 24 = .ok (.ishl, 1) := by decide +kernel
theorem dX5_withoutTurns_25 : decode cX5_withoutTurns 25 = .ok (.ior, 1) := by decide +kernel
theorem dX5_withoutTurns_26 : decode cX5_withoutTurns 26 = .ok (.istore_n 1, 1) := by decide +kernel
theorem dX5_withoutTurns_27 : decode cX5_withoutTurns 27 = .ok (.iinc 2 1, 3) := by decide +kernel
theorem dX5_withoutTurns_30 : decode cX5_withoutTurns 30 = .ok (.goto (-26), 3) := by decide +kernel
theorem dX5_withoutTurns_33 : decode cX5_withoutTurns 33 = .ok (.iload_n 1, 1) := by decide +kernel
theorem dX5_withoutTurns_34 : decode cX5_withoutTurns 34 = .ok (.ireturn, 1) := by decide +kernel
theorem dX6_init_0 : decode cX6_init 0 = .ok (.aload_n 0, 1) := by decide +kernel
theorem dX6_init_1 : decode cX6_init 1 = .ok (.invokespecial 3, 3) := by decide +kernel
theorem dX6_init_4 : decode cX6_init 4 = .ok (.aload_n 0, 1) := by decide +kernel
theorem dX6_init_5 : decode cX6_init 5 = .ok (.bipush 6, 2) := by decide +kernel
theorem dX6_init_7 : decode cX6_init 7 = .ok (.newarray .int, 2) := by decide +kernel
theorem dX6_init_9 : decode cX6_init 9 = .ok (.putfield 9, 3) := by decide +kernel
theorem dX6_init_12 : decode cX6_init 12 = .ok (.aload_n 0, 1) := by decide +kernel
theorem dX6_init_13 : decode cX6_init 13 = .ok (.bipush 6, 2) := by decide +kernel
theorem dX6_init_15 : decode cX6_init 15 = .ok (.newarray .int, 2) := by decide +kernel
theorem dX6_init_17 : decode cX6_init 17 = .ok (.putfield 15, 3) := by decide +kernel
theorem dX6_init_20 : decode cX6_init 20 = .ok (.aload_n 0, 1) := by decide +kernel
theorem dX6_init_21 : decode cX6_init 21 = .ok (.bipush 6, 2) := by decide +kernel
theorem dX6_init_23 : decode cX6_init 23 = .ok (.newarray .int, 2) := by decide +kernel
theorem dX6_init_25 : decode cX6_init 25 = .ok (.putfield 18, 3) := by decide +kernel
theorem dX6_init_28 : decode cX6_init 28 = .ok (.aload_n 0, 1) := by decide +kernel
theorem dX6_init_29 : decode cX6_init 29 = .ok (.bipush 6, 2) := by decide +kernel
theorem dX6_init_31 : decode cX6_init 31 = .ok (.newarray .int, 2) := by decide +kernel
theorem dX6_init_33 : decode cX6_init 33 = .ok (.putfield 21, 3) := by decide +kernel
theorem dX6_init_36 : decode cX6_init 36 = .ok (.aload_n 0, 1) := by decide +kernel
theorem dX6_init_37 : decode cX6_init 37 = .ok (.bipush 6, 2) := by decide +kernel
theorem dX6_init_39 : decode cX6_init 39 = .ok (.newarray .int, 2) := by decide +kernel
theorem dX6_init_41 : decode cX6_init 41 = .ok (.putfield 24, 3) := by decide +kernel
theorem dX6_init_44 : decode cX6_init 44 = .ok (.return_, 1) := by decide +kernel
theorem dX6_divide_0 : decode cX6_divide 0 = .ok (.aload_n 0, 1) := by decide +kernel
theorem dX6_divide_1 : decode cX6_divide 1 = .ok (.ldc 29, 2) := by decide +kernel
theorem dX6_divide_3 : decode cX6_divide 3 = .ok (.putfield 30, 3) := by decide +kernel
theorem dX6_divide_6 : decode cX6_divide 6 = .ok (.aload_n 0, 1) := by decide +kernel
theorem dX6_divide_7 : decode cX6_divide 7 = .ok (.aload_n 1, 1) := by decide +kernel
theorem dX6_divide_8 : decode cX6_divide 8 = .ok (.iconst 0, 1) := by decide +kernel
theorem dX6_divide_9 : decode cX6_divide 9 = .ok (.iconst 0, 1) := by decide +kernel
theorem dX6_divide_10 : decode cX6_divide 10 = .ok (.iconst 0, 1) := by decide +kernel
theorem dX6_divide_11 : decode cX6_divide 11 = .ok (.invokevirtual 34, 3) := by decide +kernel
theorem dX6_divide_14 : decode cX6_divide 14 = .ok (.aload_n 0, 1) := by decide +kernel
theorem dX6_divide_15 : decode cX6_divide 15 = .ok (.getfield 30, 3) := by decide +kernel
theorem dX6_divide_18 : decode cX6_divide 18 = .ok (.ireturn, 1) := by decide +kernel
theorem dX6_place_0 : decode cX6_place 0 = .ok (.iload 4, 2) := by decide +kernel
theorem dX6_place_2 : decode cX6_place 2 = .ok (.aload_n 0, 1) := by decide +kernel
theorem dX6_place_3 : decode cX6_place 3 = .ok (.getfield 30, 3) := by decide +kernel
theorem dX6_place_6 : decode cX6_place 6 = .ok (.if_icmp .lt 4, 3) := by decide +kernel
theorem dX6_place_9 : decode cX6_place 9 = .ok (.return_, 1) := by decide +kernel
theorem dX6_place_10 : decode cX6_place 10 = .ok (.iload_n 2, 1) := by decide +kernel
theorem dX6_place_11 : decode cX6_place 11 = .ok (.aload_n 1, 1) := by decide +kernel
theorem dX6_place_12 : decode cX6_place 12 = .ok (.getfield 38, 3) := by decide +kernel
theorem dX6_place_15 : decode cX6_place 15 = .ok (.if_icmp .lt 10, 3) := by decide +kernel
theorem dX6_place_18 : decode cX6_place 18 = .ok (.aload_n 0, 1) := by decide +kernel
theorem dX6_place_19 : decode cX6_place 19 = .ok (.iload 4, 2) := by decide +kernel
theorem dX6_place_21 : decode cX6_place 21 = .ok (.invokevirtual 43, 3) := by decide +kernel
theorem dX6_place_24 : decode cX6_place 24 = .ok (.return_, 1) := by decide +kernel
theorem dX6_place_25 : decode cX6_place 25 = .ok (.iconst 0, 1) := by decide +kernel
theorem dX6_place_26 : decode cX6_place 26 = .ok (.istore 5, 2) := by decide +kernel
theorem dX6_place_28 : decode cX6_place 28 = .ok (.iload 5, 2) := by decide +kernel
theorem dX6_place_30 : decode cX6_place 30 = .ok (.iload_n 3, 1) := by decide +kernel
theorem dX6_place_31 : decode cX6_place 31 = .ok (.if_icmp .gt 136, 3) := by decide +kernel
theorem dX6_place_34 : decode cX6_place 34 = .ok (.iload 5, 2) := by decide +kernel
theorem dX6_place_36 : decode cX6_place 36 = .ok (.bipush 6, 2) := by decide +kernel
theorem dX6_place_38 : decode cX6_place 38 = .ok (.if_icmp .ge 129, 3) := by decide +kernel
theorem dX6_place_41 : decode cX6_place 41 = .ok (.aload_n 0, 1) := by decide +kernel
theorem dX6_place_42 : decode cX6_place 42 = .ok (.getfield 21, 3) := by decide +kernel
theorem dX6_place_45 : decode cX6_place 45 = .ok (.iload 5, 2) := by decide +kernel
theorem dX6_place_47 : decode cX6_place 47 = .ok (.iaload, 1) := by decide +kernel
theorem dX6_place_48 : decode cX6_place 48 = .ok (.aload_n 1, 1) := by decide +kernel
theorem dX6_place_49 : decode cX6_place 49 = .ok (.getfield 47, 3) := by decide +kernel
theorem dX6_place_52 : decode cX6_place 52 = .ok (.iload_n 2, 1) := by decide +kernel
theorem dX6_place_53 : decode cX6_place 53 = .ok (.iaload, 1) := by decide +kernel
theorem dX6_place_54 : decode cX6_place 54 = .ok (.iconst (-1), 1) := by decide +kernel
theorem dX6_place_55 : decode cX6_place 55 = .ok (.ixor, 1) := by decide +kernel
theorem dX6_place_56 : decode cX6_place 56 = .ok (.iand, 1) := by decide +kernel
theorem dX6_place_57 : decode cX6_place 57 = .ok (.ifCond .ne 104, 3) := by decide +kernel
theorem dX6_place_60 : decode cX6_place 60 = .ok (.aload_n 0, 1) := by decide +kernel
theorem dX6_place_61 : decode cX6_place 61 = .ok (.getfield 24, 3) := by decide +kernel
theorem dX6_place_64 : decode cX6_place 64 = .ok (.iload 5, 2) := by decide +kernel
theorem dX6_place_66 : decode cX6_place 66 = .ok (.iaload, 1) := by decide +kernel
theorem dX6_place_67 : decode cX6_place 67 = .ok (.istore 6, 2) := by decide +kernel
theorem dX6_place_69 : decode cX6_place 69 = .ok (.aload_n 0, 1) := by decide +kernel
theorem dX6_place_70 : decode cX6_place 70 = .ok (.getfield 24, 3) := by decide +kernel
theorem dX6_place_73 : decode cX6_place 73 = .ok (.iload 5, 2) := by decide +kernel
theorem dX6_place_75 : decode cX6_place 75 = .ok (.iload 6, 2) := by decide +kernel
theorem dX6_place_77 : decode cX6_place 77 = .ok (.aload_n 0, 1) := by decide +kernel
theorem dX6_place_78 : decode cX6_place 78 = .ok (.getfield 9, 3) := by decide +kernel
theorem dX6_place_81 : decode cX6_place 81 = .ok (.iload_n 2, 1) := by decide +kernel
theorem dX6_place_82 : decode cX6_place 82 = .ok (.iaload, 1) := by decide +kernel
theorem dX6_place_83 : decode cX6_place 83 = .ok (.invokestatic 50, 3) := by decide +kernel
theorem dX6_place_86 : decode cX6_place 86 = .ok (.iastore, 1) := by decide +kernel
theorem dX6_place_87 : decode cX6_place 87 = .ok (.aload_n 0, 1) := by decide +kernel
theorem dX6_place_88 : decode cX6_place 88 = .ok (.getfield 21, 3) := by decide +kernel
theorem dX6_place_91 : decode cX6_place 91 = .ok (.iload 5, 2) := by decide +kernel
theorem dX6_place_93 : decode cX6_place 93 = .ok (.dup2, 1) := by decide +kernel
theorem dX6_place_94 : decode cX6_place 94 = .ok (.iaload, 1) := by decide +kernel
theorem dX6_place_95 : decode cX6_place 95 = .ok (.iconst 1, 1) := by decide +kernel
theorem dX6_place_96 : decode cX6_place 96 = .ok (.iload_n 2, 1) := by decide +kernel
theorem dX6_place_97 : decode cX6_place 97 = .ok (.ishl, 1) := by decide +kernel
theorem dX6_place_98 : decode cX6_place 98 = .ok (.ior, 1) := by decide +kernel
theorem dX6_place_99 : decode cX6_place 99 = .ok (.iastore, 1) := by decide +kernel
theorem dX6_place_100 : decode cX6_place 100 = .ok (.aload_n 0, 1) := by decide +kernel
theorem dX6_place_101 : decode cX6_place 101 = .ok (.getfield 18, 3) := by decide +kernel
theorem dX6_place_104 : decode cX6_place 104 = .ok (.iload_n 2, 1) := by decide +kernel
theorem dX6_place_105 : decode cX6_place 105 = .ok (.iload 5, 2) := by decide +kernel
theorem dX6_place_107 : decode cX6_place 107 = .ok (.iastore, 1) := by decide +kernel
theorem dX6_place_108 : decode cX6_place 108 = .ok (.aload_n 0, 1) := by decide +kernel
theorem dX6_place_109 : decode cX6_place 109 = .ok (.aload_n 1, 1) := by decide +kernel
theorem dX6_place_110 : decode cX6_place 110 = .ok (.iload_n 2, 1) := by decide +kernel
theorem dX6_place_111 : decode cX6_place 111 = .ok (.iconst 1, 1) := by decide +kernel
theorem dX6_place_112 : decode cX6_place 112 = .ok (.iadd, 1) := by decide +kernel
theorem dX6_place_113 : decode cX6_place 113 = .ok (.iload_n 3, 1) := by decide +kernel
theorem dX6_place_114 : decode cX6_place 114 = .ok (.iload 5, 2) := by decide +kernel
theorem dX6_place_116 : decode cX6_place 116 = .ok (.iconst 1, 1) := by decide +kernel
theorem dX6_place_117 : decode cX6_place 117 = .ok (.iadd, 1) := by decide +kernel
theorem dX6_place_118 : decode cX6_place 118 = .ok (.invokestatic 50, 3) := by decide +kernel
theorem dX6_place_121 : decode cX6_place 121 = .ok (.iload 4, 2) := by decide +kernel
theorem dX6_place_123 : decode cX6_place 123 = .ok (.iload 6, 2) := by decide +kernel
theorem dX6_place_125 : decode cX6_place 125 = .ok (.isub, 1) := by decide +kernel
theorem dX6_place_126 : decode cX6_place 126 = .ok (.aload_n 0, 1) := by decide +kernel
theorem dX6_place_127 : decode cX6_place 127 = .ok (.getfield 24, 3) := by decide +kernel
theorem dX6_place_130 : decode cX6_place 130 = .ok (.iload 5, 2) := by decide +kernel
theorem dX6_place_132 : decode cX6_place 132 = .ok (.iaload, 1) := by decide +kernel
theorem dX6_place_133 : decode cX6_place 133 = .ok (.iadd, 1) := by decide +kernel
theorem dX6_place_134 : decode cX6_place 134 = .ok (.invokevirtual 34, 3) := by decide +kernel
theorem dX6_place_137 : decode cX6_place 137 = .ok (.aload_n 0, 1) := by decide +kernel
theorem dX6_place_138 : decode cX6_place 138 = .ok (.getfield 21, 3) := by decide +kernel
theorem dX6_place_141 : decode cX6_place 141 = .ok (.iload 5, 2) := by decide +kernel
theorem dX6_place_143 : decode cX6_place 143 = .ok (.dup2, 1) := by decide +kernel
theorem dX6_place_144 : decode cX6_place 144 = .ok (.iaload, 1) := by decide +kernel
theorem dX6_place_145 : decode cX6_place 145 = .ok (.iconst 1, 1) := by decide +kernel
theorem dX6_place_146 : decode cX6_place 146 = .ok (.iload_n 2, 1) := by decide +kernel
theorem dX6_place_147 : decode cX6_place 147 = .ok (.ishl, 1) := by decide +kernel
theorem dX6_place_148 : decode cX6_place 148 = .ok (.iconst (-1), 1) := by decide +kernel
theorem dX6_place_149 : decode cX6_place 149 = .ok (.ixor, 1) := by decide +kernel
theorem dX6_place_150 : decode cX6_place 150 = .ok (.iand, 1) := by decide +kernel
theorem dX6_place_151 : decode cX6_place 151 = .ok (.iastore, 1) := by decide +kernel
theorem dX6_place_152 : decode cX6_place 152 = .ok (.aload_n 0, 1) := by decide +kernel
theorem dX6_place_153 : decode cX6_place 153 = .ok (.getfield 24, 3) := by decide +kernel
theorem dX6_place_156 : decode cX6_place 156 = .ok (.iload 5, 2) := by decide +kernel
theorem dX6_place_158 : decode cX6_place 158 = .ok (.iload 6, 2) := by decide +kernel
theorem dX6_place_160 : decode cX6_place 160 = .ok (.iastore, 1) := by decide +kernel
theorem dX6_place_161 : decode cX6_place 161 = .ok (.iinc 5 1, 3) := by decide +kernel
theorem dX6_place_164 : decode cX6_place 164 = .ok (.goto (-136), 3) := by decide +kernel
theorem dX6_place_167 : decode cX6_place 167 = .ok (.return_, 1) := by decide +kernel
theorem dX6_keep_0 : decode cX6_keep 0 = .ok (.aload_n 0, 1) := by decide +kernel
theorem dX6_keep_1 : decode cX6_keep 1 = .ok (.iload_n 1, 1) := by decide +kernel
theorem dX6_keep_2 : decode cX6_keep 2 = .ok (.putfield 30, 3) := by decide +kernel
theorem dX6_keep_5 : decode cX6_keep 5 = .ok (.iconst 0, 1) := by decide +kernel
theorem dX6_keep_6 : decode cX6_keep 6 = .ok (.istore_n 2, 1) := by decide +kernel
theorem dX6_keep_7 : decode cX6_keep 7 = .ok (.iload_n 2, 1) := by decide +kernel
theorem dX6_keep_8 : decode cX6_keep 8 = .ok (.bipush 6, 2) := by decide +kernel
theorem dX6_keep_10 : decode cX6_keep 10 = .ok (.if_icmp .ge 21, 3) := by decide +kernel
theorem dX6_keep_13 : decode cX6_keep 13 = .ok (.aload_n 0, 1) := by decide +kernel
theorem dX6_keep_14 : decode cX6_keep 14 = .ok (.getfield 15, 3) := by decide +kernel
theorem dX6_keep_17 : decode cX6_keep 17 = .ok (.iload_n 2, 1) := by decide +kernel
theorem dX6_keep_18 : decode cX6_keep 18 = .ok (.aload_n 0, 1) := by decide +kernel
theorem dX6_keep_19 : decode cX6_keep 19 = .ok (.getfield 18, 3) := by decide +kernel
theorem dX6_keep_22 : decode cX6_keep 22 = .ok (.iload_n 2, 1) := by decide +kernel
theorem dX6_keep_23 : decode cX6_keep 23 = .ok (.iaload, 1) := by decide +kernel
theorem dX6_keep_24 : decode cX6_keep 24 = .ok (.iastore, 1) := by decide +kernel
theorem dX6_keep_25 : decode cX6_keep 25 = .ok (.iinc 2 1, 3) := by decide +kernel
theorem dX6_keep_28 : decode cX6_keep 28 = .ok (.goto (-21), 3) := by decide +kernel
theorem dX6_keep_31 : decode cX6_keep 31 = .ok (.return_, 1) := by decide +kernel
theorem dX7_init_0 : decode cX7_init 0 = .ok (.aload_n 0, 1) := by decide +kernel
theorem dX7_init_1 : decode cX7_init 1 = .ok (.invokespecial 3, 3) := by decide +kernel
theorem dX7_init_4 : decode cX7_init 4 = .ok (.aload_n 0, 1) := by decide +kernel
theorem dX7_init_5 : decode cX7_init 5 = .ok (.bipush 60, 2) := by decide +kernel
theorem dX7_init_7 : decode cX7_init 7 = .ok (.newarray .int, 2) := by decide +kernel
theorem dX7_init_9 : decode cX7_init 9 = .ok (.putfield 9, 3) := by decide +kernel
theorem dX7_init_12 : decode cX7_init 12 = .ok (.aload_n 0, 1) := by decide +kernel
theorem dX7_init_13 : decode cX7_init 13 = .ok (.iconst (-1), 1) := by decide +kernel
theorem dX7_init_14 : decode cX7_init 14 = .ok (.putfield 15, 3) := by decide +kernel
theorem dX7_init_17 : decode cX7_init 17 = .ok (.return_, 1) := by decide +kernel
theorem dX7_isNothing_0 : decode cX7_isNothing 0 = .ok (.aload_n 0, 1) := by decide +kernel
theorem dX7_isNothing_1 : decode cX7_isNothing 1 = .ok (.getfield 15, 3) := by decide +kernel
theorem dX7_isNothing_4 : decode cX7_isNothing 4 = .ok (.iconst (-1), 1) := by decide +kernel
theorem dX7_isNothing_5 : decode cX7_isNothing 5 = .ok (.if_icmp .ne 7, 3) := by decide +kernel
theorem dX7_isNothing_8 : decode cX7_isNothing 8 = .ok (.iconst 1, 1) := by decide +kernel
theorem dX7_isNothing_9 : decode cX7_isNothing 9 = .ok (.goto 4, 3) := by decide +kernel
theorem dX7_isNothing_12 : decode cX7_isNothing 12 = .ok (.iconst 0, 1) := by decide +kernel
theorem dX7_isNothing_13 : decode cX7_isNothing 13 = .ok (.ireturn, 1) := by decide +kernel
theorem dX7_makeNew_0 : decode cX7_makeNew 0 = .ok (.aload_n 0, 1) := by decide +kernel
theorem dX7_makeNew_1 : decode cX7_makeNew 1 = .ok (.iload_n 1, 1) := by decide +kernel
theorem dX7_makeNew_2 : decode cX7_makeNew 2 = .ok (.putfield 19, 3) := by decide +kernel
theorem dX7_makeNew_5 : decode cX7_makeNew 5 = .ok (.aload_n 0, 1) := by decide +kernel
theorem dX7_makeNew_6 : decode cX7_makeNew 6 = .ok (.iload_n 2, 1) := by decide +kernel
theorem dX7_makeNew_7 : decode cX7_makeNew 7 = .ok (.putfield 15, 3) := by decide +kernel
theorem dX7_makeNew_10 : decode cX7_makeNew 10 = .ok (.iconst 0, 1) := by decide +kernel
theorem dX7_makeNew_11 : decode cX7_makeNew 11 = .ok (.istore_n 3, 1) := by decide +kernel
theorem dX7_makeNew_12 : decode cX7_makeNew 12 = .ok (.iload_n 3, 1) := by decide +kernel
theorem dX7_makeNew_13 : decode cX7_makeNew 13 = .ok (.bipush 60, 2) := by decide +kernel
theorem dX7_makeNew_15 : decode cX7_makeNew 15 = .ok (.if_icmp .ge 16, 3) := by decide +kernel
theorem dX7_makeNew_18 : decode cX7_makeNew 18 = .ok (.aload_n 0, 1) := by decide +kernel
theorem dX7_makeNew_19 : decode cX7_makeNew 19 = .ok (.getfield 9, 3) := by decide +kernel
theorem dX7_makeNew_22 : decode cX7_makeNew 22 = .ok (.iload_n 3, 1) := by decide +kernel
theorem dX7_makeNew_23 : decode cX7_makeNew 23 = .ok (.iconst 0, 1) := by decide +kernel
theorem dX7_makeNew_24 : decode cX7_makeNew 24 = .ok (.iastore, 1) := by decide +kernel
theorem dX7_makeNew_25 : decode cX7_makeNew 25 = .ok (.iinc 3 1, 3) := by decide +kernel
theorem dX7_makeNew_28 : decode cX7_makeNew 28 = .ok (.goto (-16), 3) := by decide +kernel
theorem dX7_makeNew_31 : decode cX7_makeNew 31 = .ok (.return_, 1) := by decide +kernel
theorem dX7_put_0 : decode cX7_put 0 = .ok (.aload_n 0, 1) := by decide +kernel
theorem dX7_put_1 : decode cX7_put 1 = .ok (.getfield 19, 3) := by decide +kernel
theorem dX7_put_4 : decode cX7_put 4 = .ok (.ifCond .ne 14, 3) := by decide +kernel
theorem dX7_put_7 : decode cX7_put 7 = .ok (.aload_n 0, 1) := by decide +kernel
theorem dX7_put_8 : decode cX7_put 8 = .ok (.getfield 9, 3) := by decide +kernel
theorem dX7_put_11 : decode cX7_put 11 = .ok (.iload_n 1, 1) := by decide +kernel
theorem dX7_put_12 : decode cX7_put 12 = .ok (.iload_n 2, 1) := by decide +kernel
theorem dX7_put_13 : decode cX7_put 13 = .ok (.i2b, 1) := by decide +kernel
theorem dX7_put_14 : decode cX7_put 14 = .ok (.iastore, 1) := by decide +kernel
theorem dX7_put_15 : decode cX7_put 15 = .ok (.goto 29, 3) := by decide +kernel
theorem dX7_put_18 : decode cX7_put 18 = .ok (.aload_n 0, 1) := by decide +kernel
theorem dX7_put_19 : decode cX7_put 19 = .ok (.getfield 19, 3) := by decide +kernel
theorem dX7_put_22 : decode cX7_put 22 = .ok (.iconst 1, 1) := by decide +kernel
theorem dX7_put_23 : decode cX7_put 23 = .ok (.if_icmp .ne 14, 3) := by decide +kernel
theorem dX7_put_26 : decode cX7_put 26 = .ok (.aload_n 0, 1) := by decide +kernel
theorem dX7_put_27 : decode cX7_put 27 = .ok (.getfield 9, 3) := by decide +kernel
theorem dX7_put_30 : decode cX7_put 30 = .ok (.iload_n 1, 1) := by decide +kernel
theorem dX7_put_31 : decode cX7_put 31 = .ok (.iload_n 2, 1) := by decide +kernel
theorem dX7_put_32 : decode cX7_put 32 = .ok (.i2s, 1) := by decide +kernel
theorem dX7_put_33 : decode cX7_put 33 = .ok (.iastore, 1) := by decide +kernel
theorem dX7_put_34 : decode cX7_put 34 = .ok (.goto 10, 3) := by decide +kernel
theorem dX7_put_37 : decode cX7_put 37 = .ok (.aload_n 0, 1) := by decide +kernel
theorem dX7_put_38 : decode cX7_put 38 = .ok (.getfield 9, 3) := by decide +kernel
theorem dX7_put_41 : decode cX7_put 41 = .ok (.iload_n 1, 1) := by decide +kernel
theorem dX7_put_42 : decode cX7_put 42 = .ok (.iload_n 2, 1) := by decide +kernel
theorem dX7_put_43 : decode cX7_put 43 = .ok (.iastore, 1) := by decide +kernel
theorem dX7_put_44 : decode cX7_put 44 = .ok (.return_, 1) := by decide +kernel
theorem dX7_holdsCall_0 : decode cX7_holdsCall 0 = .ok (.iload_n 1, 1) := by decide +kernel
theorem dX7_holdsCall_1 : decode cX7_holdsCall 1 = .ok (.ifCond .lt 21, 3) := by decide +kernel
theorem dX7_holdsCall_4 : decode cX7_holdsCall 4 = .ok (.iload_n 1, 1) := by decide +kernel
theorem dX7_holdsCall_5 : decode cX7_holdsCall 5 = .ok (.aload_n 0, 1) := by decide +kernel
theorem dX7_holdsCall_6 : decode cX7_holdsCall 6 = .ok (.getfield 15, 3) := by decide +kernel
theorem dX7_holdsCall_9 : decode cX7_holdsCall 9 = .ok (.iconst 3, 1) := by decide +kernel
theorem dX7_holdsCall_10 : decode cX7_holdsCall 10 = .ok (.iload_n 2, 1) := by decide +kernel
theorem dX7_holdsCall_11 : decode cX7_holdsCall 11 = .ok (.iconst 1, 1) := by decide +kernel
theorem dX7_holdsCall_12 : decode cX7_holdsCall 12 = .ok (.iadd, 1) := by decide +kernel
theorem dX7_holdsCall_13 : decode cX7_holdsCall 13 = .ok (.imul, 1) := by decide +kernel
theorem dX7_holdsCall_14 : decode cX7_holdsCall 14 = .ok (.isub, 1) := by decide +kernel
theorem dX7_holdsCall_15 : decode cX7_holdsCall 15 = .ok (.if_icmp .gt 7, 3) := by decide +kernel
theorem dX7_holdsCall_18 : decode cX7_holdsCall 18 = .ok (.iconst 1, 1) := by decide +kernel
theorem dX7_holdsCall_19 : decode cX7_holdsCall 19 = .ok (.goto 4, 3) := by decide +kernel
theorem dX7_holdsCall_22 : decode cX7_holdsCall 22 = .ok (.iconst 0, 1) := by decide +kernel
theorem dX7_holdsCall_23 : decode cX7_holdsCall 23 = .ok (.ireturn, 1) := by decide +kernel
theorem dX8_init_0 : decode cX8_init 0 = .ok (.aload_n 0, 1) := by decide +kernel
theorem dX8_init_1 : decode cX8_init 1 = .ok (.invokespecial 3, 3) := by decide +kernel
theorem dX8_init_4 : decode cX8_init 4 = .ok (.aload_n 0, 1) := by decide +kernel
theorem dX8_init_5 : decode cX8_init 5 = .ok (.bipush 6, 2) := by decide +kernel
theorem dX8_init_7 : decode cX8_init 7 = .ok (.newarray .int, 2) := by decide +kernel
theorem dX8_init_9 : decode cX8_init 9 = .ok (.putfield 9, 3) := by decide +kernel
theorem dX8_init_12 : decode cX8_init 12 = .ok (.aload_n 0, 1) := by decide +kernel
theorem dX8_init_13 : decode cX8_init 13 = .ok (.bipush 6, 2) := by decide +kernel
theorem dX8_init_15 : decode cX8_init 15 = .ok (.newarray .int, 2) := by decide +kernel
theorem dX8_init_17 : decode cX8_init 17 = .ok (.putfield 15, 3) := by decide +kernel
theorem dX8_init_20 : decode cX8_init 20 = .ok (.aload_n 0, 1) := by decide +kernel
theorem dX8_init_21 : decode cX8_init 21 = .ok (.bipush 6, 2) := by decide +kernel
theorem dX8_init_23 : decode cX8_init 23 = .ok (.newarray .int, 2) := by decide +kernel
theorem dX8_init_25 : decode cX8_init 25 = .ok (.putfield 18, 3) := by decide +kernel
theorem dX8_init_28 : decode cX8_init 28 = .ok (.aload_n 0, 1) := by decide +kernel
theorem dX8_init_29 : decode cX8_init 29 = .ok (.bipush 6, 2) := by decide +kernel
theorem dX8_init_31 : decode cX8_init 31 = .ok (.newarray .int, 2) := by decide +kernel
theorem dX8_init_33 : decode cX8_init 33 = .ok (.putfield 21, 3) := by decide +kernel
theorem dX8_init_36 : decode cX8_init 36 = .ok (.return_, 1) := by decide +kernel
theorem dX8_add_0 : decode cX8_add 0 = .ok (.aload_n 0, 1) := by decide +kernel
theorem dX8_add_1 : decode cX8_add 1 = .ok (.getfield 9, 3) := by decide +kernel
theorem dX8_add_4 : decode cX8_add 4 = .ok (.aload_n 0, 1) := by decide +kernel
theorem dX8_add_5 : decode cX8_add 5 = .ok (.getfield 24, 3) := by decide +kernel
theorem dX8_add_8 : decode cX8_add 8 = .ok (.iload_n 1, 1) := by decide +kernel
theorem dX8_add_9 : decode cX8_add 9 = .ok (.iastore, 1) := by decide +kernel
theorem dX8_add_10 : decode cX8_add 10 = .ok (.aload_n 0, 1) := by decide +kernel
theorem dX8_add_11 : decode cX8_add 11 = .ok (.getfield 15, 3) := by decide +kernel
theorem dX8_add_14 : decode cX8_add 14 = .ok (.aload_n 0, 1) := by decide +kernel
theorem dX8_add_15 : decode cX8_add 15 = .ok (.getfield 24, 3) := by decide +kernel
theorem dX8_add_18 : decode cX8_add 18 = .ok (.iload_n 2, 1) := by decide +kernel
theorem dX8_add_19 : decode cX8_add 19 = .ok (.iastore, 1) := by decide +kernel
theorem dX8_add_20 : decode cX8_add 20 = .ok (.aload_n 0, 1) := by decide +kernel
theorem dX8_add_21 : decode cX8_add 21 = .ok (.getfield 18, 3) := by decide +kernel
theorem dX8_add_24 : decode cX8_add 24 = .ok (.aload_n 0, 1) := by decide +kernel
theorem dX8_add_25 : decode cX8_add 25 = .ok (.getfield 24, 3) := by decide +kernel
theorem dX8_add_28 : decode cX8_add 28 = .ok (.iload_n 3, 1) := by decide +kernel
theorem dX8_add_29 : decode cX8_add 29 = .ok (.iastore, 1) := by decide +kernel
theorem dX8_add_30 : decode cX8_add 30 = .ok (.aload_n 0, 1) := by decide +kernel
theorem dX8_add_31 : decode cX8_add 31 = .ok (.dup, 1) := by decide +kernel
theorem dX8_add_32 : decode cX8_add 32 = .ok (.getfield 24, 3) := by decide +kernel
theorem dX8_add_35 : decode cX8_add 35 = .ok (.iconst 1, 1) := by decide +kernel
theorem dX8_add_36 : decode cX8_add 36 = .ok (.iadd, 1) := by decide +kernel
theorem dX8_add_37 : decode cX8_add 37 = .ok (.putfield 24, 3) := by decide +kernel
theorem dX8_add_40 : decode cX8_add 40 = .ok (.aload_n 0, 1) := by decide +kernel
theorem dX8_add_41 : decode cX8_add 41 = .ok (.getfield 24, 3) := by decide +kernel
theorem dX8_add_44 : decode cX8_add 44 = .ok (.iconst 1, 1) := by decide +kernel
theorem dX8_add_45 : decode cX8_add 45 = .ok (.isub, 1) := by decide +kernel
theorem dX8_add_46 : decode cX8_add 46 = .ok (.ireturn, 1) := by decide +kernel
theorem dX8_setApart_0 : decode cX8_setApart 0 = .ok (.iload_n 3, 1) := by decide +kernel
theorem dX8_setApart_1 : decode cX8_setApart 1 = .ok (.ifCond .eq 30, 3) := by decide +kernel
theorem dX8_setApart_4 : decode cX8_setApart 4 = .ok (.aload_n 0, 1) := by decide +kernel
theorem dX8_setApart_5 : decode cX8_setApart 5 = .ok (.getfield 21, 3) := by decide +kernel
theorem dX8_setApart_8 : decode cX8_setApart 8 = .ok (.iload_n 1, 1) := by decide +kernel
theorem dX8_setApart_9 : decode cX8_setApart 9 = .ok (.dup2, 1) := by decide +kernel
theorem dX8_setApart_10 : decode cX8_setApart 10 = .ok (.iaload, 1) := by decide +kernel
theorem dX8_setApart_11 : decode cX8_setApart 11 = .ok (.iconst 1, 1) := by decide +kernel
theorem dX8_setApart_12 : decode cX8_setApart 12 = .ok (.iload_n 2, 1) := by decide +kernel
theorem dX8_setApart_13 : decode cX8_setApart 13 = .ok (.ishl, 1) := by decide +kernel
theorem dX8_setApart_14 : decode cX8_setApart 14 = .ok (.ior, 1) := by decide +kernel
theorem dX8_setApart_15 : decode cX8_setApart 15 = .ok (.iastore, 1) := by decide +kernel
theorem dX8_setApart_16 : decode cX8_setApart 16 = .ok (.aload_n 0, 1) := by decide +kernel
theorem dX8_setApart_17 : decode cX8_setApart 17 = .ok (.getfield 21, 3) := by decide +kernel
theorem dX8_setApart_20 : decode cX8_setApart 20 = .ok (.iload_n 2, 1) := by decide +kernel
theorem dX8_setApart_21 : decode cX8_setApart 21 = .ok (.dup2, 1) := by decide +kernel
theorem dX8_setApart_22 : decode cX8_setApart 22 = .ok (.iaload, 1) := by decide +kernel
theorem dX8_setApart_23 : decode cX8_setApart 23 = .ok (.iconst 1, 1) := by decide +kernel
theorem dX8_setApart_24 : decode cX8_setApart 24 = .ok (.iload_n 1, 1) := by decide +kernel
theorem dX8_setApart_25 : decode cX8_setApart 25 = .ok (.ishl, 1) := by decide +kernel
theorem dX8_setApart_26 : decode cX8_setApart 26 = .ok (.ior, 1) := by decide +kernel
theorem dX8_setApart_27 : decode cX8_setApart 27 = .ok (.iastore, 1) := by decide +kernel
theorem dX8_setApart_28 : decode cX8_setApart 28 = .ok (.goto 31, 3) := by decide +kernel
theorem dX8_setApart_31 : decode cX8_setApart 31 = .ok (.aload_n 0, 1) := by decide +kernel
theorem dX8_setApart_32 : decode cX8_setApart 32 = .ok (.getfield 21, 3) := by decide +kernel
theorem dX8_setApart_35 : decode cX8_setApart 35 = .ok (.iload_n 1, 1) := by decide +kernel
theorem dX8_setApart_36 : decode cX8_setApart 36 = .ok (.dup2, 1) := by decide +kernel
theorem dX8_setApart_37 : decode cX8_setApart 37 = .ok (.iaload, 1) := by decide +kernel
theorem dX8_setApart_38 : decode cX8_setApart 38 = .ok (.iconst 1, 1) := by decide +kernel
theorem dX8_setApart_39 : decode cX8_setApart 39 = .ok (.iload_n 2, 1) := by decide +kernel
theorem dX8_setApart_40 : decode cX8_setApart 40 = .ok (.ishl, 1) := by decide +kernel
theorem dX8_setApart_41 : decode cX8_setApart 41 = .ok (.iconst (-1), 1) := by decide +kernel
theorem dX8_setApart_42 : decode cX8_setApart 42 = .ok (.ixor, 1) := by decide +kernel
theorem dX8_setApart_43 : decode cX8_setApart 43 = .ok (.iand, 1) := by decide +kernel
theorem dX8_setApart_44 : decode cX8_setApart 44 = .ok (.iastore, 1) := by decide +kernel
theorem dX8_setApart_45 : decode cX8_setApart 45 = .ok (.aload_n 0, 1) := by decide +kernel
theorem dX8_setApart_46 : decode cX8_setApart 46 = .ok (.getfield 21, 3) := by decide +kernel
theorem dX8_setApart_49 : decode cX8_setApart 49 = .ok (.iload_n 2, 1) := by decide +kernel
theorem dX8_setApart_50 : decode cX8_setApart 50 = .ok (.dup2, 1) := by decide +kernel
theorem dX8_setApart_51 : decode cX8_setApart 51 = .ok (.iaload, 1) := by decide +kernel
theorem dX8_setApart_52 : decode cX8_setApart 52 = .ok (.iconst 1, 1) := by decide +kernel
theorem dX8_setApart_53 : decode cX8_setApart 53 = .ok (.iload_n 1, 1) := by decide +kernel
theorem dX8_setApart_54 : decode cX8_setApart 54 = .ok (.ishl, 1) := by decide +kernel
theorem dX8_setApart_55 : decode cX8_setApart 55 = .ok (.iconst (-1), 1) := by decide +kernel
theorem dX8_setApart_56 : decode cX8_setApart 56 = .ok (.ixor, 1) := by decide +kernel
theorem dX8_setApart_57 : decode cX8_setApart 57 = .ok (.iand, 1) := by decide +kernel
theorem dX8_setApart_58 : decode cX8_setApart 58 = .ok (.iastore, 1) := by decide +kernel
theorem dX8_setApart_59 : decode cX8_setApart 59 = .ok (.return_, 1) := by decide +kernel
theorem dX9_init_0 : decode cX9_init 0 = .ok (.aload_n 0, 1) := by decide +kernel
theorem dX9_init_1 : decode cX9_init 1 = .ok (.invokespecial 3, 3) := by decide +kernel
theorem dX9_init_4 : decode cX9_init 4 = .ok (.aload_n 0, 1) := by decide +kernel
theorem dX9_init_5 : decode cX9_init 5 = .ok (.bipush 40, 2) := by decide +kernel
theorem dX9_init_7 : decode cX9_init 7 = .ok (.newarray .int, 2) := by decide +kernel
theorem dX9_init_9 : decode cX9_init 9 = .ok (.putfield 9, 3) := by decide +kernel
theorem dX9_init_12 : decode cX9_init 12 = .ok (.aload_n 0, 1) := by decide +kernel
theorem dX9_init_13 : decode cX9_init 13 = .ok (.bipush 40, 2) := by decide +kernel
theorem dX9_init_15 : decode cX9_init 15 = .ok (.newarray .int, 2) := by decide +kernel
theorem dX9_init_17 : decode cX9_init 17 = .ok (.putfield 15, 3) := by decide +kernel
theorem dX9_init_20 : decode cX9_init 20 = .ok (.aload_n 0, 1) := by decide +kernel
theorem dX9_init_21 : decode cX9_init 21 = .ok (.iconst (-1), 1) := by decide +kernel
theorem dX9_init_22 : decode cX9_init 22 = .ok (.putfield 18, 3) := by decide +kernel
theorem dX9_init_25 : decode cX9_init 25 = .ok (.return_, 1) := by decide +kernel
theorem dX9_begin_0 : decode cX9_begin 0 = .ok (.aload_n 0, 1) := by decide +kernel
theorem dX9_begin_1 : decode cX9_begin 1 = .ok (.iconst 0, 1) := by decide +kernel
theorem dX9_begin_2 : decode cX9_begin 2 = .ok (.putfield 22, 3) := by decide +kernel
theorem dX9_begin_5 : decode cX9_begin 5 = .ok (.aload_n 0, 1) := by decide +kernel
theorem dX9_begin_6 : decode cX9_begin 6 = .ok (.iconst 0, 1) := by decide +kernel
theorem dX9_begin_7 : decode cX9_begin 7 = .ok (.putfield 25, 3) := by decide +kernel
theorem dX9_begin_10 : decode cX9_begin 10 = .ok (.aload_n 0, 1) := by decide +kernel
theorem dX9_begin_11 : decode cX9_begin 11 = .ok (.iconst 0, 1) := by decide +kernel
theorem dX9_begin_12 : decode cX9_begin 12 = .ok (.putfield 28, 3) := by decide +kernel
theorem dX9_begin_15 : decode cX9_begin 15 = .ok (.aload_n 0, 1) := by decide +kernel
theorem dX9_begin_16 : decode cX9_begin 16 = .ok (.iconst 0, 1) := by decide +kernel
theorem dX9_begin_17 : decode cX9_begin 17 = .ok (.putfield 31, 3) := by decide +kernel
theorem dX9_begin_20 : decode cX9_begin 20 = .ok (.aload_n 0, 1) := by decide +kernel
theorem dX9_begin_21 : decode cX9_begin 21 = .ok (.iconst 0, 1) := by decide +kernel
theorem dX9_begin_22 : decode cX9_begin 22 = .ok (.putfield 34, 3) := by decide +kernel
theorem dX9_begin_25 : decode cX9_begin 25 = .ok (.aload_n 0, 1) := by decide +kernel
theorem dX9_begin_26 : decode cX9_begin 26 = .ok (.iload_n 1, 1) := by decide +kernel
theorem dX9_begin_27 : decode cX9_begin 27 = .ok (.putfield 18, 3) := by decide +kernel
theorem dX9_begin_30 : decode cX9_begin 30 = .ok (.return_, 1) := by decide +kernel
theorem dX9_push_0 : decode cX9_push 0 = .ok (.aload_n 0, 1) := by decide +kernel
theorem dX9_push_1 : decode cX9_push 1 = .ok (.getfield 9, 3) := by decide +kernel
theorem dX9_push_4 : decode cX9_push 4 = .ok (.aload_n 0, 1) := by decide +kernel
theorem dX9_push_5 : decode cX9_push 5 = .ok (.getfield 22, 3) := by decide +kernel
theorem dX9_push_8 : decode cX9_push 8 = .ok (.iload_n 1, 1) := by decide +kernel
theorem dX9_push_9 : decode cX9_push 9 = .ok (.iastore, 1) := by decide +kernel
theorem dX9_push_10 : decode cX9_push 10 = .ok (.aload_n 0, 1) := by decide +kernel
theorem dX9_push_11 : decode cX9_push 11 = .ok (.getfield 15, 3) := by decide +kernel
theorem dX9_push_14 : decode cX9_push 14 = .ok (.aload_n 0, 1) := by decide +kernel
theorem dX9_push_15 : decode cX9_push 15 = .ok (.getfield 22, 3) := by decide +kernel
theorem dX9_push_18 : decode cX9_push 18 = .ok (.iload_n 2, 1) := by decide +kernel
theorem dX9_push_19 : decode cX9_push 19 = .ok (.iastore, 1) := by decide +kernel
theorem dX9_push_20 : decode cX9_push 20 = .ok (.aload_n 0, 1) := by decide +kernel
theorem dX9_push_21 : decode cX9_push 21 = .ok (.dup, 1) := by decide +kernel
theorem dX9_push_22 : decode cX9_push 22 = .ok (.getfield 22, 3) := by decide +kernel
theorem dX9_push_25 : decode cX9_push 25 = .ok (.iconst 1, 1) := by decide +kernel
theorem dX9_push_26 : decode cX9_push 26 = .ok (.iadd, 1) := by decide +kernel
theorem dX9_push_27 : decode cX9_push 27 = .ok (.putfield 22, 3) := by decide +kernel
theorem dX9_push_30 : decode cX9_push 30 = .ok (.aload_n 0, 1) := by decide +kernel
theorem dX9_push_31 : decode cX9_push 31 = .ok (.dup, 1) := by decide +kernel
theorem dX9_push_32 : decode cX9_push 32 = .ok (.getfield 25, 3) := by decide +kernel
theorem dX9_push_35 : decode cX9_push 35 = .ok (.iload_n 2, 1) := by decide +kernel
theorem dX9_push_36 : decode cX9_push 36 = .ok (.iadd, 1) := by decide +kernel
theorem dX9_push_37 : decode cX9_push 37 = .ok (.putfield 25, 3) := by decide +kernel
theorem dX9_push_40 : decode cX9_push 40 = .ok (.aload_n 0, 1) := by decide +kernel
theorem dX9_push_41 : decode cX9_push 41 = .ok (.aload_n 0, 1) := by decide +kernel
theorem dX9_push_42 : decode cX9_push 42 = .ok (.getfield 28, 3) := by decide +kernel
theorem dX9_push_45 : decode cX9_push 45 = .ok (.aload_n 0, 1) := by decide +kernel
theorem dX9_push_46 : decode cX9_push 46 = .ok (.getfield 25, 3) := by decide +kernel
theorem dX9_push_49 : decode cX9_push 49 = .ok (.invokestatic 37, 3) := by decide +kernel
theorem dX9_push_52 : decode cX9_push 52 = .ok (.putfield 28, 3) := by decide +kernel
theorem dX9_push_55 : decode cX9_push 55 = .ok (.return_, 1) := by decide +kernel
theorem dX9_pop_0 : decode cX9_pop 0 = .ok (.aload_n 0, 1) := by decide +kernel
theorem dX9_pop_1 : decode cX9_pop 1 = .ok (.dup, 1) := by decide +kernel
theorem dX9_pop_2 : decode cX9_pop 2 = .ok (.getfield 22, 3) := by decide +kernel
theorem dX9_pop_5 : decode cX9_pop 5 = .ok (.iconst 1, 1) := by decide +kernel
theorem dX9_pop_6 : decode cX9_pop 6 = .ok (.isub, 1) := by decide +kernel
theorem dX9_pop_7 : decode cX9_pop 7 = .ok (.putfield 22, 3) := by decide +kernel
theorem dX9_pop_10 : decode cX9_pop 10 = .ok (.aload_n 0, 1) := by decide +kernel
theorem dX9_pop_11 : decode cX9_pop 11 = .ok (.dup, 1) := by decide +kernel
theorem dX9_pop_12 : decode cX9_pop 12 = .ok (.getfield 25, 3) := by decide +kernel
theorem dX9_pop_15 : decode cX9_pop 15 = .ok (.aload_n 0, 1) := by decide +kernel
theorem dX9_pop_16 : decode cX9_pop 16 = .ok (.getfield 15, 3) := by decide +kernel
theorem dX9_pop_19 : decode cX9_pop 19 = .ok (.aload_n 0, 1) := by decide +kernel
theorem dX9_pop_20 : decode cX9_pop 20 = .ok (.getfield 22, 3) := by decide +kernel
theorem dX9_pop_23 : decode cX9_pop 23 = .ok (.iaload, 1) := by decide +kernel
theorem dX9_pop_24 : decode cX9_pop 24 = .ok (.isub, 1) := by decide +kernel
theorem dX9_pop_25 : decode cX9_pop 25 = .ok (.putfield 25, 3) := by decide +kernel
theorem dX9_pop_28 : decode cX9_pop 28 = .ok (.return_, 1) := by decide +kernel
theorem dX9_onTop_0 : decode cX9_onTop 0 = .ok (.aload_n 0, 1) := by decide +kernel
theorem dX9_onTop_1 : decode cX9_onTop 1 = .ok (.getfield 9, 3) := by decide +kernel
theorem dX9_onTop_4 : decode cX9_onTop 4 = .ok (.aload_n 0, 1) := by decide +kernel
theorem dX9_onTop_5 : decode cX9_onTop 5 = .ok (.getfield 22, 3) := by decide +kernel
theorem dX9_onTop_8 : decode cX9_onTop 8 = .ok (.iconst 1, 1) := by decide +kernel
theorem dX9_onTop_9 : decode cX9_onTop 9 = .ok (.isub, 1) := by decide +kernel
theorem dX9_onTop_10 : decode cX9_onTop 10 = .ok (.iaload, 1) := by decide +kernel
theorem dX9_onTop_11 : decode cX9_onTop 11 = .ok (.ireturn, 1) := by decide +kernel
theorem dX9_markStep_0 : decode cX9_markStep 0 = .ok (.iload_n 1, 1) := by decide +kernel
theorem dX9_markStep_1 : decode cX9_markStep 1 = .ok (.ifCond .ne 13, 3) := by decide +kernel
theorem dX9_markStep_4 : decode cX9_markStep 4 = .ok (.aload_n 0, 1) := by decide +kernel
theorem dX9_markStep_5 : decode cX9_markStep 5 = .ok (.dup, 1) := by decide +kernel
theorem dX9_markStep_6 : decode cX9_markStep 6 = .ok (.getfield 31, 3) := by decide +kernel
theorem dX9_markStep_9 : decode cX9_markStep 9 = .ok (.iconst 1, 1) := by decide +kernel
theorem dX9_markStep_10 : decode cX9_markStep 10 = .ok (.iadd, 1) := by decide +kernel
theorem dX9_markStep_11 : decode cX9_markStep 11 = .ok (.putfield 31, 3) := by decide +kernel
theorem dX9_markStep_14 : decode cX9_markStep 14 = .ok (.return_, 1) := by decide +kernel
theorem dX9_howOften_0 : decode cX9_howOften 0 = .ok (.iconst 0, 1) := by decide +kernel
theorem dX9_howOften_1 : decode cX9_howOften 1 = .ok (.istore_n 2, 1) := by decide +kernel
theorem dX9_howOften_2 : decode cX9_howOften 2 = .ok (.iconst 0, 1) := by decide +kernel
theorem dX9_howOften_3 : decode cX9_howOften 3 = .ok (.istore_n 3, 1) := by decide +kernel
theorem dX9_howOften_4 : decode cX9_howOften 4 = .ok (.iload_n 3, 1) := by decide +kernel
theorem dX9_howOften_5 : decode cX9_howOften 5 = .ok (.aload_n 0, 1) := by decide +kernel
theorem dX9_howOften_6 : decode cX9_howOften 6 = .ok (.getfield 22, 3) := by decide +kernel
theorem dX9_howOften_9 : decode cX9_howOften 9 = .ok (.if_icmp .ge 22, 3) := by decide +kernel
theorem dX9_howOften_12 : decode cX9_howOften 12 = .ok (.aload_n 0, 1) := by decide +kernel
theorem dX9_howOften_13 : decode cX9_howOften 13 = .ok (.getfield 9, 3) := by decide +kernel
theorem dX9_howOften_16 : decode cX9_howOften 16 = .ok (.iload_n 3, 1) := by decide +kernel
theorem dX9_howOften_17 : decode cX9_howOften 17 = .ok (.iaload, 1) := by decide +kernel
theorem dX9_howOften_18 : decode cX9_howOften 18 = .ok (.iload_n 1, 1) := by decide +kernel
theorem dX9_howOften_19 : decode cX9_howOften 19 = .ok (.if_icmp .ne 6, 3) := by decide +kernel
theorem dX9_howOften_22 : decode cX9_howOften 22 = .ok (.iinc 2 1, 3) := by decide +kernel
theorem dX9_howOften_25 : decode cX9_howOften 25 = .ok (.iinc 3 1, 3) := by decide +kernel
theorem dX9_howOften_28 : decode cX9_howOften 28 = .ok (.goto (-24), 3) := by decide +kernel
theorem dX9_howOften_31 : decode cX9_howOften 31 = .ok (.iload_n 2, 1) := by decide +kernel
theorem dX9_howOften_32 : decode cX9_howOften 32 = .ok (.ireturn, 1) := by decide +kernel
theorem dJ6_bitCount_0f7a4_0 : decode cJ6_bitCount_0f7a4 0 = .ok (.iload_n 0, 1) := by decide +kernel
theorem dJ6_bitCount_0f7a4_1 : decode cJ6_bitCount_0f7a4 1 = .ok (.iload_n 0, 1) := by decide +kernel
theorem dJ6_bitCount_0f7a4_2 : decode cJ6_bitCount_0f7a4 2 = .ok (.iconst 1, 1) := by decide +kernel
theorem dJ6_bitCount_0f7a4_3 : decode cJ6_bitCount_0f7a4 3 = .ok (.iushr, 1) := by decide +kernel
theorem dJ6_bitCount_0f7a4_4 : decode cJ6_bitCount_0f7a4 4 = .ok (.ldc_w 265, 3) := by decide +kernel
theorem dJ6_bitCount_0f7a4_7 : decode cJ6_bitCount_0f7a4 7 = .ok (.iand, 1) := by decide +kernel
theorem dJ6_bitCount_0f7a4_8 : decode cJ6_bitCount_0f7a4 8 = .ok (.isub, 1) := by decide +kernel
theorem dJ6_bitCount_0f7a4_9 : decode cJ6_bitCount_0f7a4 9 = .ok (.istore_n 0, 1) := by decide +kernel
theorem dJ6_bitCount_0f7a4_10 : decode cJ6_bitCount_0f7a4 10 = .ok (.iload_n 0, 1) := by decide +kernel
theorem dJ6_bitCount_0f7a4_11 : decode cJ6_bitCount_0f7a4 11 = .ok (.ldc_w 266, 3) := by decide +kernel
theorem dJ6_bitCount_0f7a4_14 : decode cJ6_bitCount_0f7a4 14 = .ok (.iand, 1) := by decide +kernel
theorem dJ6_bitCount_0f7a4_15 : decode cJ6_bitCount_0f7a4 15 = .ok (.iload_n 0, 1) := by decide +kernel
theorem dJ6_bitCount_0f7a4_16 : decode cJ6_bitCount_0f7a4 16 = .ok (.iconst 2, 1) := by decide +kernel
theorem dJ6_bitCount_0f7a4_17 : decode cJ6_bitCount_0f7a4 17 = .ok (.iushr, 1) := by decide +kernel
theorem dJ6_bitCount_0f7a4_18 : decode cJ6_bitCount_0f7a4 18 = .ok (.ldc_w 266, 3) := by decide +kernel
theorem dJ6_bitCount_0f7a4_21 : decode cJ6_bitCount_0f7a4 21 = .ok (.iand, 1) := by decide +kernel
theorem dJ6_bitCount_0f7a4_22 : decode cJ6_bitCount_0f7a4 22 = .ok (.iadd, 1) := by decide +kernel
theorem dJ6_bitCount_0f7a4_23 : decode cJ6_bitCount_0f7a4 23 = .ok (.istore_n 0, 1) := by decide +kernel
theorem dJ6_bitCount_0f7a4_24 : decode cJ6_bitCount_0f7a4 24 = .ok (.iload_n 0, 1) := by decide +kernel
theorem dJ6_bitCount_0f7a4_25 : decode cJ6_bitCount_0f7a4 25 = .ok (.iload_n 0, 1) := by decide +kernel
theorem dJ6_bitCount_0f7a4_26 : decode cJ6_bitCount_0f7a4 26 = .ok (.iconst 4, 1) := by decide +kernel
theorem dJ6_bitCount_0f7a4_27 : decode cJ6_bitCount_0f7a4 27 = .ok (.iushr, 1) := by decide +kernel
theorem dJ6_bitCount_0f7a4_28 : decode cJ6_bitCount_0f7a4 28 = .ok (.iadd, 1) := by decide +kernel
theorem dJ6_bitCount_0f7a4_29 : decode cJ6_bitCount_0f7a4 29 = .ok (.ldc_w 267, 3) := by decide +kernel
theorem dJ6_bitCount_0f7a4_32 : decode cJ6_bitCount_0f7a4 32 = .ok (.iand, 1) := by decide +kernel
theorem dJ6_bitCount_0f7a4_33 : decode cJ6_bitCount_0f7a4 33 = .ok (.istore_n 0, 1) := by decide +kernel
theorem dJ6_bitCount_0f7a4_34 : decode cJ6_bitCount_0f7a4 34 = .ok (.iload_n 0, 1) := by decide +kernel
theorem dJ6_bitCount_0f7a4_35 : decode cJ6_bitCount_0f7a4 35 = .ok (.iload_n 0, 1) := by decide +kernel
theorem dJ6_bitCount_0f7a4_36 : decode cJ6_bitCount_0f7a4 36 = .ok (.bipush 8, 2) := by decide +kernel
theorem dJ6_bitCount_0f7a4_38 : decode cJ6_bitCount_0f7a4 38 = .ok (.iushr, 1) := by decide +kernel
theorem dJ6_bitCount_0f7a4_39 : decode cJ6_bitCount_0f7a4 39 = .ok (.iadd, 1) := by decide +kernel
theorem dJ6_bitCount_0f7a4_40 : decode cJ6_bitCount_0f7a4 40 = .ok (.istore_n 0, 1) := by decide +kernel
theorem dJ6_bitCount_0f7a4_41 : decode cJ6_bitCount_0f7a4 41 = .ok (.iload_n 0, 1) := by decide +kernel
theorem dJ6_bitCount_0f7a4_42 : decode cJ6_bitCount_0f7a4 42 = .ok (.iload_n 0, 1) := by decide +kernel
theorem dJ6_bitCount_0f7a4_43 : decode cJ6_bitCount_0f7a4 43 = .ok (.bipush 16, 2) := by decide +kernel
theorem dJ6_bitCount_0f7a4_45 : decode cJ6_bitCount_0f7a4 45 = .ok (.iushr, 1) := by decide +kernel
theorem dJ6_bitCount_0f7a4_46 : decode cJ6_bitCount_0f7a4 46 = .ok (.iadd, 1) := by decide +kernel
theorem dJ6_bitCount_0f7a4_47 : decode cJ6_bitCount_0f7a4 47 = .ok (.istore_n 0, 1) := by decide +kernel
theorem dJ6_bitCount_0f7a4_48 : decode cJ6_bitCount_0f7a4 48 = .ok (.iload_n 0, 1) := by decide +kernel
theorem dJ6_bitCount_0f7a4_49 : decode cJ6_bitCount_0f7a4 49 = .ok (.bipush 63, 2) := by decide +kernel
theorem dJ6_bitCount_0f7a4_51 : decode cJ6_bitCount_0f7a4 51 = .ok (.iand, 1) := by decide +kernel
theorem dJ6_bitCount_0f7a4_52 : decode cJ6_bitCount_0f7a4 52 = .ok (.ireturn, 1) := by decide +kernel
theorem dJ9_max_7cf53_0 : decode cJ9_max_7cf53 0 = .ok (.iload_n 0, 1) := by decide +kernel
theorem dJ9_max_7cf53_1 : decode cJ9_max_7cf53 1 = .ok (.iload_n 1, 1) := by decide +kernel
theorem dJ9_max_7cf53_2 : decode cJ9_max_7cf53 2 = .ok (.if_icmp .lt 7, 3) := by decide +kernel
theorem dJ9_max_7cf53_5 : decode cJ9_max_7cf53 5 = .ok (.iload_n 0, 1) := by decide +kernel
theorem dJ9_max_7cf53_6 : decode cJ9_max_7cf53 6 = .ok (.goto 4, 3) := by decide +kernel
theorem dJ9_max_7cf53_9 : decode cJ9_max_7cf53 9 = .ok (.iload_n 1, 1) := by decide +kernel
theorem dJ9_max_7cf53_10 : decode cJ9_max_7cf53 10 = .ok (.ireturn, 1) := by decide +kernel
theorem dJ9_min_7cf53_0 : decode cJ9_min_7cf53 0 = .ok (.iload_n 0, 1) := by decide +kernel
theorem dJ9_min_7cf53_1 : decode cJ9_min_7cf53 1 = .ok (.iload_n 1, 1) := by decide +kernel
theorem dJ9_min_7cf53_2 : decode cJ9_min_7cf53 2 = .ok (.if_icmp .gt 7, 3) := by decide +kernel
theorem dJ9_min_7cf53_5 : decode cJ9_min_7cf53 5 = .ok (.iload_n 0, 1) := by decide +kernel
theorem dJ9_min_7cf53_6 : decode cJ9_min_7cf53 6 = .ok (.goto 4, 3) := by decide +kernel
theorem dJ9_min_7cf53_9 : decode cJ9_min_7cf53 9 = .ok (.iload_n 1, 1) := by decide +kernel
theorem dJ9_min_7cf53_10 : decode cJ9_min_7cf53 10 = .ok (.ireturn, 1) := by decide +kernel
end
section
theorem dX10_init_0 : decode cX10_init 0 = .ok (.aload_n 0, 1) := by decide +kernel
theorem dX10_init_1 : decode cX10_init 1 = .ok (.invokespecial 1, 3) := by decide +kernel
theorem dX10_init_4 : decode cX10_init 4 = .ok (.aload_n 0, 1) := by decide +kernel
theorem dX10_init_5 : decode cX10_init 5 = .ok (.new 7, 3) := by decide +kernel
theorem dX10_init_8 : decode cX10_init 8 = .ok (.dup, 1) := by decide +kernel
theorem dX10_init_9 : decode cX10_init 9 = .ok (.invokespecial 9, 3) := by decide +kernel
theorem dX10_init_12 : decode cX10_init 12 = .ok (.putfield 10, 3) := by decide +kernel
theorem dX10_init_15 : decode cX10_init 15 = .ok (.aload_n 0, 1) := by decide +kernel
theorem dX10_init_16 : decode cX10_init 16 = .ok (.new 16, 3) := by decide +kernel
theorem dX10_init_19 : decode cX10_init 19 = .ok (.dup, 1) := by decide +kernel
theorem dX10_init_20 : decode cX10_init 20 = .ok (.invokespecial 18, 3) := by decide +kernel
theorem dX10_init_23 : decode cX10_init 23 = .ok (.putfield 19, 3) := by decide +kernel
theorem dX10_init_26 : decode cX10_init 26 = .ok (.aload_n 0, 1) := by decide +kernel
theorem dX10_init_27 : decode cX10_init 27 = .ok (.new 23, 3) := by decide +kernel
theorem dX10_init_30 : decode cX10_init 30 = .ok (.dup, 1) := by decide +kernel
theorem dX10_init_31 : decode cX10_init 31 = .ok (.invokespecial 25, 3) := by decide +kernel
theorem dX10_init_34 : decode cX10_init 34 = .ok (.putfield 26, 3) := by decide +kernel
theorem dX10_init_37 : decode cX10_init 37 = .ok (.aload_n 0, 1) := by decide +kernel
theorem dX10_init_38 : decode cX10_init 38 = .ok (.new 30, 3) := by decide +kernel
theorem dX10_init_41 : decode cX10_init 41 = .ok (.dup, 1) := by decide +kernel
theorem dX10_init_42 : decode cX10_init 42 = .ok (.aload_n 0, 1) := by decide +kernel
theorem dX10_init_43 : decode cX10_init 43 = .ok (.getfield 10, 3) := by decide +kernel
theorem dX10_init_46 : decode cX10_init 46 = .ok (.aload_n 0, 1) := by decide +kernel
theorem dX10_init_47 : decode cX10_init 47 = .ok (.getfield 19, 3) := by decide +kernel
theorem dX10_init_50 : decode cX10_init 50 = .ok (.aload_n 0, 1) := by decide +kernel
theorem dX10_init_51 : decode cX10_init 51 = .ok (.getfield 26, 3) := by decide +kernel
theorem dX10_init_54 : decode cX10_init 54 = .ok (.invokespecial 32, 3) := by decide +kernel
theorem dX10_init_57 : decode cX10_init 57 = .ok (.putfield 35, 3) := by decide +kernel
theorem dX10_init_60 : decode cX10_init 60 = .ok (.aload_n 0, 1) := by decide +kernel
theorem dX10_init_61 : decode cX10_init 61 = .ok (.new 39, 3) := by decide +kernel
theorem dX10_init_64 : decode cX10_init 64 = .ok (.dup, 1) := by decide +kernel
theorem dX10_init_65 : decode cX10_init 65 = .ok (.aload_n 0, 1) := by decide +kernel
theorem dX10_init_66 : decode cX10_init 66 = .ok (.getfield 10, 3) := by decide +kernel
theorem dX10_init_69 : decode cX10_init 69 = .ok (.aload_n 0, 1) := by decide +kernel
theorem dX10_init_70 : decode cX10_init 70 = .ok (.getfield 35, 3) := by decide +kernel
theorem dX10_init_73 : decode cX10_init 73 = .ok (.invokespecial 41, 3) := by decide +kernel
theorem dX10_init_76 : decode cX10_init 76 = .ok (.putfield 44, 3) := by decide +kernel
theorem dX10_init_79 : decode cX10_init 79 = .ok (.aload_n 0, 1) := by decide +kernel
theorem dX10_init_80 : decode cX10_init 80 = .ok (.new 48, 3) := by decide +kernel
theorem dX10_init_83 : decode cX10_init 83 = .ok (.dup, 1) := by decide +kernel
theorem dX10_init_84 : decode cX10_init 84 = .ok (.invokespecial 50, 3) := by decide +kernel
theorem dX10_init_87 : decode cX10_init 87 = .ok (.putfield 51, 3) := by decide +kernel
theorem dX10_init_90 : decode cX10_init 90 = .ok (.aload_n 0, 1) := by decide +kernel
theorem dX10_init_91 : decode cX10_init 91 = .ok (.new 55, 3) := by decide +kernel
theorem dX10_init_94 : decode cX10_init 94 = .ok (.dup, 1) := by decide +kernel
theorem dX10_init_95 : decode cX10_init 95 = .ok (.invokespecial 57, 3) := by decide +kernel
theorem dX10_init_98 : decode cX10_init 98 = .ok (.putfield 58, 3) := by decide +kernel
theorem dX10_init_101 : decode cX10_init 101 = .ok (.aload_n 0, 1) := by decide +kernel
theorem dX10_init_102 : decode cX10_init 102 = .ok (.new 62, 3) := by decide +kernel
theorem dX10_init_105 : decode cX10_init 105 = .ok (.dup, 1) := by decide +kernel
theorem dX10_init_106 : decode cX10_init 106 = .ok (.invokespecial 64, 3) := by decide +kernel
theorem dX10_init_109 : decode cX10_init 109 = .ok (.putfield 65, 3) := by decide +kernel
theorem dX10_init_112 : decode cX10_init 112 = .ok (.aload_n 0, 1) := by decide +kernel
theorem dX10_init_113 : decode cX10_init 113 = .ok (.new 69, 3) := by decide +kernel
theorem dX10_init_116 : decode cX10_init 116 = .ok (.dup, 1) := by decide +kernel
theorem dX10_init_117 : decode cX10_init 117 = .ok (.invokespecial 71, 3) := by decide +kernel
theorem dX10_init_120 : decode cX10_init 120 = .ok (.putfield 72, 3) := by decide +kernel
theorem dX10_init_123 : decode cX10_init 123 = .ok (.aload_n 0, 1) := by decide +kernel
theorem dX10_init_124 : decode cX10_init 124 = .ok (.iconst 4, 1) := by decide +kernel
theorem dX10_init_125 : decode cX10_init 125 = .ok (.anewarray 76, 3) := by decide +kernel
theorem dX10_init_128 : decode cX10_init 128 = .ok (.putfield 78, 3) := by decide +kernel
theorem dX10_init_131 : decode cX10_init 131 = .ok (.iconst 0, 1) := by decide +kernel
theorem dX10_init_132 : decode cX10_init 132 = .ok (.istore_n 1, 1) := by decide +kernel
theorem dX10_init_133 : decode cX10_init 133 = .ok (.iload_n 1, 1) := by decide +kernel
theorem dX10_init_134 : decode cX10_init 134 = .ok (.iconst 4, 1) := by decide +kernel
theorem dX10_init_135 : decode cX10_init 135 = .ok (.if_icmp .ge 22, 3) := by decide +kernel
theorem dX10_init_138 : decode cX10_init 138 = .ok (.aload_n 0, 1) := by decide +kernel
theorem dX10_init_139 : decode cX10_init 139 = .ok (.getfield 78, 3) := by decide +kernel
theorem dX10_init_142 : decode cX10_init 142 = .ok (.iload_n 1, 1) := by decide +kernel
theorem dX10_init_143 : decode cX10_init 143 = .ok (.new 76, 3) := by decide +kernel
theorem dX10_init_146 : decode cX10_init 146 = .ok (.dup, 1) := by decide +kernel
theorem dX10_init_147 : decode cX10_init 147 = .ok (.invokespecial 82, 3) := by decide +kernel
theorem dX10_init_150 : decode cX10_init 150 = .ok (.aastore, 1) := by decide +kernel
theorem dX10_init_151 : decode cX10_init 151 = .ok (.iinc 1 1, 3) := by decide +kernel
theorem dX10_init_154 : decode cX10_init 154 = .ok (.goto (-21), 3) := by decide +kernel
theorem dX10_init_157 : decode cX10_init 157 = .ok (.return_, 1) := by decide +kernel
theorem dX10_routine_0 : decode cX10_routine 0 = .ok (.iload_n 1, 1) := by decide +kernel
theorem dX10_routine_1 : decode cX10_routine 1 = .ok (.iconst 0, 1) := by decide +kernel
theorem dX10_routine_2 : decode cX10_routine 2 = .ok (.sipush 500, 3) := by decide +kernel
theorem dX10_routine_5 : decode cX10_routine 5 = .ok (.invokestatic 83, 3) := by decide +kernel
theorem dX10_routine_8 : decode cX10_routine 8 = .ok (.ifCond .ne 5, 3) := by decide +kernel
theorem dX10_routine_11 : decode cX10_routine 11 = .ok (.iconst (-1), 1) := by decide +kernel
theorem dX10_routine_12 : decode cX10_routine 12 = .ok (.ireturn, 1) := by decide +kernel
theorem dX10_routine_13 : decode cX10_routine 13 = .ok (.aload_n 0, 1) := by decide +kernel
theorem dX10_routine_14 : decode cX10_routine 14 = .ok (.getfield 10, 3) := by decide +kernel
theorem dX10_routine_17 : decode cX10_routine 17 = .ok (.getfield 87, 3) := by decide +kernel
theorem dX10_routine_20 : decode cX10_routine 20 = .ok (.bipush 20, 2) := by decide +kernel
theorem dX10_routine_22 : decode cX10_routine 22 = .ok (.if_icmp .lt 6, 3) := by decide +kernel
theorem dX10_routine_25 : decode cX10_routine 25 = .ok (.bipush (-3), 2) := by decide +kernel
theorem dX10_routine_27 : decode cX10_routine 27 = .ok (.ireturn, 1) := by decide +kernel
theorem dX10_routine_28 : decode cX10_routine 28 = .ok (.aload_n 0, 1) := by decide +kernel
theorem dX10_routine_29 : decode cX10_routine 29 = .ok (.getfield 35, 3) := by decide +kernel
theorem dX10_routine_32 : decode cX10_routine 32 = .ok (.invokevirtual 91, 3) := by decide +kernel
theorem dX10_routine_35 : decode cX10_routine 35 = .ok (.aload_n 0, 1) := by decide +kernel
theorem dX10_routine_36 : decode cX10_routine 36 = .ok (.getfield 10, 3) := by decide +kernel
theorem dX10_routine_39 : decode cX10_routine 39 = .ok (.iload_n 1, 1) := by decide +kernel
theorem dX10_routine_40 : decode cX10_routine 40 = .ok (.invokevirtual 94, 3) := by decide +kernel
theorem dX10_routine_43 : decode cX10_routine 43 = .ok (.ireturn, 1) := by decide +kernel
theorem dX10_frame_0 : decode cX10_frame 0 = .ok (.aload_n 0, 1) := by decide +kernel
theorem dX10_frame_1 : decode cX10_frame 1 = .ok (.iload_n 1, 1) := by decide +kernel
theorem dX10_frame_2 : decode cX10_frame 2 = .ok (.invokevirtual 98, 3) := by decide +kernel
theorem dX10_frame_5 : decode cX10_frame 5 = .ok (.ifCond .eq 14, 3) := by decide +kernel
theorem dX10_frame_8 : decode cX10_frame 8 = .ok (.iload_n 2, 1) := by decide +kernel
theorem dX10_frame_9 : decode cX10_frame 9 = .ok (.iconst 0, 1) := by decide +kernel
theorem dX10_frame_10 : decode cX10_frame 10 = .ok (.sipush 500, 3) := by decide +kernel
theorem dX10_frame_13 : decode cX10_frame 13 = .ok (.invokestatic 83, 3) := by decide +kernel
theorem dX10_frame_16 : decode cX10_frame 16 = .ok (.ifCond .ne 5, 3) := by decide +kernel
theorem dX10_frame_19 : decode cX10_frame 19 = .ok (.iconst (-1), 1) := by decide +kernel
theorem dX10_frame_20 : decode cX10_frame 20 = .ok (.ireturn, 1) := by decide +kernel
theorem dX10_frame_21 : decode cX10_frame 21 = .ok (.aload_n 0, 1) := by decide +kernel
theorem dX10_frame_22 : decode cX10_frame 22 = .ok (.getfield 10, 3) := by decide +kernel
theorem dX10_frame_25 : decode cX10_frame 25 = .ok (.getfield 102, 3) := by decide +kernel
theorem dX10_frame_28 : decode cX10_frame 28 = .ok (.iload_n 1, 1) := by decide +kernel
theorem dX10_frame_29 : decode cX10_frame 29 = .ok (.iaload, 1) := by decide +kernel
theorem dX10_frame_30 : decode cX10_frame 30 = .ok (.istore_n 3, 1) := by decide +kernel
theorem dX10_frame_31 : decode cX10_frame 31 = .ok (.aload_n 0, 1) := by decide +kernel
theorem dX10_frame_32 : decode cX10_frame 32 = .ok (.getfield 10, 3) := by decide +kernel
theorem dX10_frame_35 : decode cX10_frame 35 = .ok (.getfield 102, 3) := by decide +kernel
theorem dX10_frame_38 : decode cX10_frame 38 = .ok (.iload_n 1, 1) := by decide +kernel
theorem dX10_frame_39 : decode cX10_frame 39 = .ok (.iload_n 2, 1) := by decide +kernel
theorem dX10_frame_40 : decode cX10_frame 40 = .ok (.iastore, 1) := by decide +kernel
theorem dX10_frame_41 : decode cX10_frame 41 = .ok (.iload_n 3, 1) := by decide +kernel
theorem dX10_frame_42 : decode cX10_frame 42 = .ok (.ireturn, 1) := by decide +kernel
theorem dX10_turns_0 : decode cX10_turns 0 = .ok (.aload_n 0, 1) := by decide +kernel
theorem dX10_turns_1 : decode cX10_turns 1 = .ok (.iload_n 1, 1) := by decide +kernel
theorem dX10_turns_2 : decode cX10_turns 2 = .ok (.invokevirtual 98, 3) := by decide +kernel
theorem dX10_turns_5 : decode cX10_turns 5 = .ok (.ifCond .eq 13, 3) := by decide +kernel
theorem dX10_turns_8 : decode cX10_turns 8 = .ok (.iload_n 2, 1) := by decide +kernel
theorem dX10_turns_9 : decode cX10_turns 9 = .ok (.iconst 0, 1) := by decide +kernel
theorem dX10_turns_10 : decode cX10_turns 10 = .ok (.bipush 20, 2) := by decide +kernel
theorem dX10_turns_12 : decode cX10_turns 12 = .ok (.invokestatic 83, 3) := by decide +kernel
theorem dX10_turns_15 : decode cX10_turns 15 = .ok (.ifCond .ne 5, 3) := by decide +kernel
theorem dX10_turns_18 : decode cX10_turns 18 = .ok (.iconst (-1), 1) := by decide +kernel
theorem dX10_turns_19 : decode cX10_turns 19 = .ok (.ireturn, 1) := by decide +kernel
theorem dX10_turns_20 : decode cX10_turns 20 = .ok (.aload_n 0, 1) := by decide +kernel
theorem dX10_turns_21 : decode cX10_turns 21 = .ok (.getfield 10, 3) := by decide +kernel
theorem dX10_turns_24 : decode cX10_turns 24 = .ok (.getfield 106, 3) := by decide +kernel
theorem dX10_turns_27 : decode cX10_turns 27 = .ok (.iload_n 1, 1) := by decide +kernel
theorem dX10_turns_28 : decode cX10_turns 28 = .ok (.iaload, 1) := by decide +kernel
theorem dX10_turns_29 : decode cX10_turns 29 = .ok (.istore_n 3, 1) := by decide +kernel
theorem dX10_turns_30 : decode cX10_turns 30 = .ok (.aload_n 0, 1) := by decide +kernel
theorem dX10_turns_31 : decode cX10_turns 31 = .ok (.getfield 10, 3) := by decide +kernel
theorem dX10_turns_34 : decode cX10_turns 34 = .ok (.getfield 106, 3) := by decide +kernel
theorem dX10_turns_37 : decode cX10_turns 37 = .ok (.iload_n 1, 1) := by decide +kernel
theorem dX10_turns_38 : decode cX10_turns 38 = .ok (.iload_n 2, 1) := by decide +kernel
theorem dX10_turns_39 : decode cX10_turns 39 = .ok (.iastore, 1) := by decide +kernel
theorem dX10_turns_40 : decode cX10_turns 40 = .ok (.iload_n 3, 1) := by decide +kernel
theorem dX10_turns_41 : decode cX10_turns 41 = .ok (.ireturn, 1) := by decide +kernel
theorem dX10_call_0 : decode cX10_call 0 = .ok (.iload_n 3, 1) := by decide +kernel
theorem dX10_call_1 : decode cX10_call 1 = .ok (.iload 4, 2) := by decide +kernel
theorem dX10_call_3 : decode cX10_call 3 = .ok (.invokestatic 109, 3) := by decide +kernel
theorem dX10_call_6 : decode cX10_call 6 = .ok (.istore 5, 2) := by decide +kernel
theorem dX10_call_8 : decode cX10_call 8 = .ok (.aload_n 0, 1) := by decide +kernel
theorem dX10_call_9 : decode cX10_call 9 = .ok (.iload_n 1, 1) := by decide +kernel
theorem dX10_call_10 : decode cX10_call 10 = .ok (.iload_n 2, 1) := by decide +kernel
theorem dX10_call_11 : decode cX10_call 11 = .ok (.iload 5, 2) := by decide +kernel
theorem dX10_call_13 : decode cX10_call 13 = .ok (.invokevirtual 113, 3) := by decide +kernel
theorem dX10_call_16 : decode cX10_call 16 = .ok (.istore 6, 2) := by decide +kernel
theorem dX10_call_18 : decode cX10_call 18 = .ok (.iload 6, 2) := by decide +kernel
theorem dX10_call_20 : decode cX10_call 20 = .ok (.ifCond .eq 6, 3) := by decide +kernel
theorem dX10_call_23 : decode cX10_call 23 = .ok (.iload 6, 2) := by decide +kernel
theorem dX10_call_25 : decode cX10_call 25 = .ok (.ireturn, 1) := by decide +kernel
theorem dX10_call_26 : decode cX10_call 26 = .ok (.aload_n 0, 1) := by decide +kernel
theorem dX10_call_27 : decode cX10_call 27 = .ok (.getfield 26, 3) := by decide +kernel
theorem dX10_call_30 : decode cX10_call 30 = .ok (.iload_n 1, 1) := by decide +kernel
theorem dX10_call_31 : decode cX10_call 31 = .ok (.iload_n 2, 1) := by decide +kernel
theorem dX10_call_32 : decode cX10_call 32 = .ok (.iload 5, 2) := by decide +kernel
theorem dX10_call_34 : decode cX10_call 34 = .ok (.invokevirtual 117, 3) := by decide +kernel
theorem dX10_call_37 : decode cX10_call 37 = .ok (.aload_n 0, 1) := by decide +kernel
theorem dX10_call_38 : decode cX10_call 38 = .ok (.getfield 35, 3) := by decide +kernel
theorem dX10_call_41 : decode cX10_call 41 = .ok (.invokevirtual 91, 3) := by decide +kernel
theorem dX10_call_44 : decode cX10_call 44 = .ok (.aload_n 0, 1) := by decide +kernel
theorem dX10_call_45 : decode cX10_call 45 = .ok (.getfield 26, 3) := by decide +kernel
theorem dX10_call_48 : decode cX10_call 48 = .ok (.getfield 120, 3) := by decide +kernel
theorem dX10_call_51 : decode cX10_call 51 = .ok (.ireturn, 1) := by decide +kernel
theorem dX10_cut_0 : decode cX10_cut 0 = .ok (.iload_n 3, 1) := by decide +kernel
theorem dX10_cut_1 : decode cX10_cut 1 = .ok (.iload 4, 2) := by decide +kernel
theorem dX10_cut_3 : decode cX10_cut 3 = .ok (.invokestatic 109, 3) := by decide +kernel
theorem dX10_cut_6 : decode cX10_cut 6 = .ok (.istore 5, 2) := by decide +kernel
theorem dX10_cut_8 : decode cX10_cut 8 = .ok (.aload_n 0, 1) := by decide +kernel
theorem dX10_cut_9 : decode cX10_cut 9 = .ok (.iload_n 1, 1) := by decide +kernel
theorem dX10_cut_10 : decode cX10_cut 10 = .ok (.iload_n 2, 1) := by decide +kernel
theorem dX10_cut_11 : decode cX10_cut 11 = .ok (.iload 5, 2) := by decide +kernel
theorem dX10_cut_13 : decode cX10_cut 13 = .ok (.invokevirtual 121, 3) := by decide +kernel
theorem dX10_cut_16 : decode cX10_cut 16 = .ok (.ifCond .ne 5, 3) := by decide +kernel
theorem dX10_cut_19 : decode cX10_cut 19 = .ok (.iconst (-1), 1) := by decide +kernel
theorem dX10_cut_20 : decode cX10_cut 20 = .ok (.ireturn, 1) := by decide +kernel
theorem dX10_cut_21 : decode cX10_cut 21 = .ok (.aload_n 0, 1) := by decide +kernel
theorem dX10_cut_22 : decode cX10_cut 22 = .ok (.getfield 26, 3) := by decide +kernel
theorem dX10_cut_25 : decode cX10_cut 25 = .ok (.iload_n 1, 1) := by decide +kernel
theorem dX10_cut_26 : decode cX10_cut 26 = .ok (.iload_n 2, 1) := by decide +kernel
theorem dX10_cut_27 : decode cX10_cut 27 = .ok (.iload 5, 2) := by decide +kernel
theorem dX10_cut_29 : decode cX10_cut 29 = .ok (.invokevirtual 124, 3) := by decide +kernel
theorem dX10_cut_32 : decode cX10_cut 32 = .ok (.ifCond .ne 6, 3) := by decide +kernel
theorem dX10_cut_35 : decode cX10_cut 35 = .ok (.bipush (-2), 2) := by decide +kernel
theorem dX10_cut_37 : decode cX10_cut 37 = .ok (.ireturn, 1) := by decide +kernel
theorem dX10_cut_38 : decode cX10_cut 38 = .ok (.aload_n 0, 1) := by decide +kernel
theorem dX10_cut_39 : decode cX10_cut 39 = .ok (.getfield 26, 3) := by decide +kernel
theorem dX10_cut_42 : decode cX10_cut 42 = .ok (.iload_n 1, 1) := by decide +kernel
theorem dX10_cut_43 : decode cX10_cut 43 = .ok (.iload_n 2, 1) := by decide +kernel
theorem dX10_cut_44 : decode cX10_cut 44 = .ok (.iload 5, 2) := by decide +kernel
theorem dX10_cut_46 : decode cX10_cut 46 = .ok (.invokevirtual 127, 3) := by decide +kernel
theorem dX10_cut_49 : decode cX10_cut 49 = .ok (.aload_n 0, 1) := by decide +kernel
theorem dX10_cut_50 : decode cX10_cut 50 = .ok (.getfield 35, 3) := by decide +kernel
theorem dX10_cut_53 : decode cX10_cut 53 = .ok (.invokevirtual 91, 3) := by decide +kernel
theorem dX10_cut_56 : decode cX10_cut 56 = .ok (.aload_n 0, 1) := by decide +kernel
theorem dX10_cut_57 : decode cX10_cut 57 = .ok (.getfield 26, 3) := by decide +kernel
theorem dX10_cut_60 : decode cX10_cut 60 = .ok (.getfield 120, 3) := by decide +kernel
theorem dX10_cut_63 : decode cX10_cut 63 = .ok (.ireturn, 1) := by decide +kernel
theorem dX10_take_0 : decode cX10_take 0 = .ok (.iload_n 1, 1) := by decide +kernel
theorem dX10_take_1 : decode cX10_take 1 = .ok (.invokestatic 130, 3) := by decide +kernel
theorem dX10_take_4 : decode cX10_take 4 = .ok (.ifCond .eq 11, 3) := by decide +kernel
theorem dX10_take_7 : decode cX10_take 7 = .ok (.aload_n 0, 1) := by decide +kernel
theorem dX10_take_8 : decode cX10_take 8 = .ok (.iload_n 2, 1) := by decide +kernel
theorem dX10_take_9 : decode cX10_take 9 = .ok (.invokevirtual 98, 3) := by decide +kernel
theorem dX10_take_12 : decode cX10_take 12 = .ok (.ifCond .ne 5, 3) := by decide +kernel
theorem dX10_take_15 : decode cX10_take 15 = .ok (.iconst (-1), 1) := by decide +kernel
theorem dX10_take_16 : decode cX10_take 16 = .ok (.ireturn, 1) := by decide +kernel
theorem dX10_take_17 : decode cX10_take 17 = .ok (.aload_n 0, 1) := by decide +kernel
theorem dX10_take_18 : decode cX10_take 18 = .ok (.getfield 19, 3) := by decide +kernel
theorem dX10_take_21 : decode cX10_take 21 = .ok (.getfield 133, 3) := by decide +kernel
theorem dX10_take_24 : decode cX10_take 24 = .ok (.iload_n 1, 1) := by decide +kernel
theorem dX10_take_25 : decode cX10_take 25 = .ok (.iaload, 1) := by decide +kernel
theorem dX10_take_26 : decode cX10_take 26 = .ok (.iload_n 2, 1) := by decide +kernel
theorem dX10_take_27 : decode cX10_take 27 = .ok (.invokestatic 136, 3) := by decide +kernel
theorem dX10_take_30 : decode cX10_take 30 = .ok (.ifCond .eq 6, 3) := by decide +kernel
theorem dX10_take_33 : decode cX10_take 33 = .ok (.bipush (-2), 2) := by decide +kernel
theorem dX10_take_35 : decode cX10_take 35 = .ok (.ireturn, 1) := by decide +kernel
theorem dX10_take_36 : decode cX10_take 36 = .ok (.aload_n 0, 1) := by decide +kernel
theorem dX10_take_37 : decode cX10_take 37 = .ok (.getfield 19, 3) := by decide +kernel
theorem dX10_take_40 : decode cX10_take 40 = .ok (.iload_n 1, 1) := by decide +kernel
theorem dX10_take_41 : decode cX10_take 41 = .ok (.iload_n 2, 1) := by decide +kernel
theorem dX10_take_42 : decode cX10_take 42 = .ok (.invokevirtual 140, 3) := by decide +kernel
theorem dX10_take_45 : decode cX10_take 45 = .ok (.aload_n 0, 1) := by decide +kernel
theorem dX10_take_46 : decode cX10_take 46 = .ok (.getfield 35, 3) := by decide +kernel
theorem dX10_take_49 : decode cX10_take 49 = .ok (.invokevirtual 91, 3) := by decide +kernel
theorem dX10_take_52 : decode cX10_take 52 = .ok (.iconst 1, 1) := by decide +kernel
theorem dX10_take_53 : decode cX10_take 53 = .ok (.ireturn, 1) := by decide +kernel
theorem dX10_flow_0 : decode cX10_flow 0 = .ok (.iload_n 1, 1) := by decide +kernel
theorem dX10_flow_1 : decode cX10_flow 1 = .ok (.invokestatic 130, 3) := by decide +kernel
theorem dX10_flow_4 : decode cX10_flow 4 = .ok (.ifCond .eq 10, 3) := by decide +kernel
theorem dX10_flow_7 : decode cX10_flow 7 = .ok (.iload_n 2, 1) := by decide +kernel
theorem dX10_flow_8 : decode cX10_flow 8 = .ok (.invokestatic 130, 3) := by decide +kernel
theorem dX10_flow_11 : decode cX10_flow 11 = .ok (.ifCond .ne 5, 3) := by decide +kernel
theorem dX10_flow_14 : decode cX10_flow 14 = .ok (.iconst (-1), 1) := by decide +kernel
theorem dX10_flow_15 : decode cX10_flow 15 = .ok (.ireturn, 1) := by decide +kernel
theorem dX10_flow_16 : decode cX10_flow 16 = .ok (.iload_n 1, 1) := by decide +kernel
theorem dX10_flow_17 : decode cX10_flow 17 = .ok (.iload_n 2, 1) := by decide +kernel
theorem dX10_flow_18 : decode cX10_flow 18 = .ok (.if_icmp .eq 19, 3) := by decide +kernel
theorem dX10_flow_21 : decode cX10_flow 21 = .ok (.aload_n 0, 1) := by decide +kernel
theorem dX10_flow_22 : decode cX10_flow 22 = .ok (.getfield 19, 3) := by decide +kernel
theorem dX10_flow_25 : decode cX10_flow 25 = .ok (.getfield 144, 3) := by decide +kernel
theorem dX10_flow_28 : decode cX10_flow 28 = .ok (.iload_n 1, 1) := by decide +kernel
theorem dX10_flow_29 : decode cX10_flow 29 = .ok (.iaload, 1) := by decide +kernel
theorem dX10_flow_30 : decode cX10_flow 30 = .ok (.iload_n 2, 1) := by decide +kernel
theorem dX10_flow_31 : decode cX10_flow 31 = .ok (.invokestatic 136, 3) := by decide +kernel
theorem dX10_flow_34 : decode cX10_flow 34 = .ok (.ifCond .eq 6, 3) := by decide +kernel
theorem dX10_flow_37 : decode cX10_flow 37 = .ok (.bipush (-2), 2) := by decide +kernel
theorem dX10_flow_39 : decode cX10_flow 39 = .ok (.ireturn, 1) := by decide +kernel
theorem dX10_flow_40 : decode cX10_flow 40 = .ok (.aload_n 0, 1) := by decide +kernel
theorem dX10_flow_41 : decode cX10_flow 41 = .ok (.getfield 19, 3) := by decide +kernel
theorem dX10_flow_44 : decode cX10_flow 44 = .ok (.iload_n 1, 1) := by decide +kernel
theorem dX10_flow_45 : decode cX10_flow 45 = .ok (.iload_n 2, 1) := by decide +kernel
theorem dX10_flow_46 : decode cX10_flow 46 = .ok (.invokevirtual 147, 3) := by decide +kernel
theorem dX10_flow_49 : decode cX10_flow 49 = .ok (.aload_n 0, 1) := by decide +kernel
theorem dX10_flow_50 : decode cX10_flow 50 = .ok (.getfield 35, 3) := by decide +kernel
theorem dX10_flow_53 : decode cX10_flow 53 = .ok (.invokevirtual 91, 3) := by decide +kernel
theorem dX10_flow_56 : decode cX10_flow 56 = .ok (.iconst 1, 1) := by decide +kernel
theorem dX10_flow_57 : decode cX10_flow 57 = .ok (.ireturn, 1) := by decide +kernel
theorem dX10_goals_0 : decode cX10_goals 0 = .ok (.iload_n 1, 1) := by decide +kernel
theorem dX10_goals_1 : decode cX10_goals 1 = .ok (.invokestatic 130, 3) := by decide +kernel
theorem dX10_goals_4 : decode cX10_goals 4 = .ok (.ifCond .eq 15, 3) := by decide +kernel
theorem dX10_goals_7 : decode cX10_goals 7 = .ok (.aload_n 0, 1) := by decide +kernel
theorem dX10_goals_8 : decode cX10_goals 8 = .ok (.getfield 19, 3) := by decide +kernel
theorem dX10_goals_11 : decode cX10_goals 11 = .ok (.getfield 150, 3) := by decide +kernel
theorem dX10_goals_14 : decode cX10_goals 14 = .ok (.iload_n 1, 1) := by decide +kernel
theorem dX10_goals_15 : decode cX10_goals 15 = .ok (.iaload, 1) := by decide +kernel
theorem dX10_goals_16 : decode cX10_goals 16 = .ok (.goto 4, 3) := by decide +kernel
theorem dX10_goals_19 : decode cX10_goals 19 = .ok (.iconst (-1), 1) := by decide +kernel
theorem dX10_goals_20 : decode cX10_goals 20 = .ok (.ireturn, 1) := by decide +kernel
theorem dX10_about_0 : decode cX10_about 0 = .ok (.aload_n 0, 1) := by decide +kernel
theorem dX10_about_1 : decode cX10_about 1 = .ok (.iload_n 1, 1) := by decide +kernel
theorem dX10_about_2 : decode cX10_about 2 = .ok (.invokevirtual 98, 3) := by decide +kernel
theorem dX10_about_5 : decode cX10_about 5 = .ok (.ifCond .ne 5, 3) := by decide +kernel
theorem dX10_about_8 : decode cX10_about 8 = .ok (.iconst (-1), 1) := by decide +kernel
theorem dX10_about_9 : decode cX10_about 9 = .ok (.ireturn, 1) := by decide +kernel
theorem dX10_about_10 : decode cX10_about 10 = .ok (.aload_n 0, 1) := by decide +kernel
theorem dX10_about_11 : decode cX10_about 11 = .ok (.getfield 35, 3) := by decide +kernel
theorem dX10_about_14 : decode cX10_about 14 = .ok (.invokevirtual 153, 3) := by decide +kernel
theorem dX10_about_17 : decode cX10_about 17 = .ok (.iload_n 2, 1) := by decide +kernel
theorem dX10_about_18 : decode cX10_about 18 = .ok (.tableswitch 113 0 5 #[38, 48, 58, 78, 91, 104], 38) := by decide +kernel
theorem dX10_about_56 : decode cX10_about 56 = .ok (.aload_n 0, 1) := by decide +kernel
theorem dX10_about_57 : decode cX10_about 57 = .ok (.getfield 10, 3) := by decide +kernel
theorem dX10_about_60 : decode cX10_about 60 = .ok (.getfield 102, 3) := by decide +kernel
theorem dX10_about_63 : decode cX10_about 63 = .ok (.iload_n 1, 1) := by decide +kernel
theorem dX10_about_64 : decode cX10_about 64 = .ok (.iaload, 1) := by decide +kernel
theorem dX10_about_65 : decode cX10_about 65 = .ok (.ireturn, 1) := by decide +kernel
theorem dX10_about_66 : decode cX10_about 66 = .ok (.aload_n 0, 1) := by decide +kernel
theorem dX10_about_67 : decode cX10_about 67 = .ok (.getfield 10, 3) := by decide +kernel
theorem dX10_about_70 : decode cX10_about 70 = .ok (.getfield 106, 3) := by decide +kernel
theorem dX10_about_73 : decode cX10_about 73 = .ok (.iload_n 1, 1) := by decide +kernel
theorem dX10_about_74 : decode cX10_about 74 = .ok (.iaload, 1) := by decide +kernel
theorem dX10_about_75 : decode cX10_about 75 = .ok (.ireturn, 1) := by decide +kernel
theorem dX10_about_76 : decode cX10_about 76 = .ok (.aload_n 0, 1) := by decide +kernel
theorem dX10_about_77 : decode cX10_about 77 = .ok (.getfield 35, 3) := by decide +kernel
theorem dX10_about_80 : decode cX10_about 80 = .ok (.getfield 156, 3) := by decide +kernel
theorem dX10_about_83 : decode cX10_about 83 = .ok (.iload_n 1, 1) := by decide +kernel
theorem dX10_about_84 : decode cX10_about 84 = .ok (.invokestatic 136, 3) := by decide +kernel
theorem dX10_about_87 : decode cX10_about 87 = .ok (.ifCond .eq 7, 3) := by decide +kernel
theorem dX10_about_90 : decode cX10_about 90 = .ok (.iconst 1, 1) := by decide +kernel
theorem dX10_about_91 : decode cX10_about 91 = .ok (.goto 4, 3) := by decide +kernel
theorem dX10_about_94 : decode cX10_about 94 = .ok (.iconst 0, 1) := by decide +kernel
theorem dX10_about_95 : decode cX10_about 95 = .ok (.ireturn, 1) := by decide +kernel
theorem dX10_about_96 : decode cX10_about 96 = .ok (.aload_n 0, 1) := by decide +kernel
theorem dX10_about_97 : decode cX10_about 97 = .ok (.getfield 35, 3) := by decide +kernel
theorem dX10_about_100 : decode cX10_about 100 = .ok (.getfield 159, 3) := by decide +kernel
theorem dX10_about_103 : decode cX10_about 103 = .ok (.iload_n 1, 1) := by decide +kernel
theorem dX10_about_104 : decode cX10_about 104 = .ok (.iaload, 1) := by decide +kernel
theorem dX10_about_105 : decode cX10_about 105 = .ok (.invokestatic 162, 3) := by decide +kernel
theorem dX10_about_108 : decode cX10_about 108 = .ok (.ireturn, 1) := by decide +kernel
theorem dX10_about_109 : decode cX10_about 109 = .ok (.aload_n 0, 1) := by decide +kernel
theorem dX10_about_110 : decode cX10_about 110 = .ok (.getfield 35, 3) := by decide +kernel
theorem dX10_about_113 : decode cX10_about 113 = .ok (.getfield 165, 3) := by decide +kernel
theorem dX10_about_116 : decode cX10_about 116 = .ok (.iload_n 1, 1) := by decide +kernel
theorem dX10_about_117 : decode cX10_about 117 = .ok (.iaload, 1) := by decide +kernel
theorem dX10_about_118 : decode cX10_about 118 = .ok (.invokestatic 168, 3) := by decide +kernel
theorem dX10_about_121 : decode cX10_about 121 = .ok (.ireturn, 1) := by decide +kernel
theorem dX10_about_122 : decode cX10_about 122 = .ok (.aload_n 0, 1) := by decide +kernel
theorem dX10_about_123 : decode cX10_about 123 = .ok (.getfield 35, 3) := by decide +kernel
theorem dX10_about_126 : decode cX10_about 126 = .ok (.iload_n 1, 1) := by decide +kernel
theorem dX10_about_127 : decode cX10_about 127 = .ok (.invokevirtual 173, 3) := by decide +kernel
theorem dX10_about_130 : decode cX10_about 130 = .ok (.ireturn, 1) := by decide +kernel
theorem dX10_about_131 : decode cX10_about 131 = .ok (.iconst (-1), 1) := by decide +kernel
theorem dX10_about_132 : decode cX10_about 132 = .ok (.ireturn, 1) := by decide +kernel
theorem dX10_depth_0 : decode cX10_depth 0 = .ok (.aload_n 0, 1) := by decide +kernel
theorem dX10_depth_1 : decode cX10_depth 1 = .ok (.iload_n 1, 1) := by decide +kernel
theorem dX10_depth_2 : decode cX10_depth 2 = .ok (.invokevirtual 98, 3) := by decide +kernel
theorem dX10_depth_5 : decode cX10_depth 5 = .ok (.ifCond .ne 5, 3) := by decide +kernel
theorem dX10_depth_8 : decode cX10_depth 8 = .ok (.iconst (-1), 1) := by decide +kernel
theorem dX10_depth_9 : decode cX10_depth 9 = .ok (.ireturn, 1) := by decide +kernel
theorem dX10_depth_10 : decode cX10_depth 10 = .ok (.aload_n 0, 1) := by decide +kernel
theorem dX10_depth_11 : decode cX10_depth 11 = .ok (.getfield 44, 3) := by decide +kernel
theorem dX10_depth_14 : decode cX10_depth 14 = .ok (.iconst (-1), 1) := by decide +kernel
theorem dX10_depth_15 : decode cX10_depth 15 = .ok (.invokevirtual 176, 3) := by decide +kernel
theorem dX10_depth_18 : decode cX10_depth 18 = .ok (.aload_n 0, 1) := by decide +kernel
theorem dX10_depth_19 : decode cX10_depth 19 = .ok (.getfield 44, 3) := by decide +kernel
theorem dX10_depth_22 : decode cX10_depth 22 = .ok (.getfield 180, 3) := by decide +kernel
theorem dX10_depth_25 : decode cX10_depth 25 = .ok (.iload_n 1, 1) := by decide +kernel
theorem dX10_depth_26 : decode cX10_depth 26 = .ok (.iaload, 1) := by decide +kernel
theorem dX10_depth_27 : decode cX10_depth 27 = .ok (.ireturn, 1) := by decide +kernel
theorem dX10_way_0 : decode cX10_way 0 = .ok (.aload_n 0, 1) := by decide +kernel
theorem dX10_way_1 : decode cX10_way 1 = .ok (.iload_n 1, 1) := by decide +kernel
theorem dX10_way_2 : decode cX10_way 2 = .ok (.invokevirtual 98, 3) := by decide +kernel
theorem dX10_way_5 : decode cX10_way 5 = .ok (.ifCond .eq 7, 3) := by decide +kernel
theorem dX10_way_8 : decode cX10_way 8 = .ok (.iload_n 2, 1) := by decide +kernel
theorem dX10_way_9 : decode cX10_way 9 = .ok (.ifCond .ge 5, 3) := by decide +kernel
theorem dX10_way_12 : decode cX10_way 12 = .ok (.iconst (-1), 1) := by decide +kernel
theorem dX10_way_13 : decode cX10_way 13 = .ok (.ireturn, 1) := by decide +kernel
theorem dX10_way_14 : decode cX10_way 14 = .ok (.aload_n 0, 1) := by decide +kernel
theorem dX10_way_15 : decode cX10_way 15 = .ok (.getfield 35, 3) := by decide +kernel
theorem dX10_way_18 : decode cX10_way 18 = .ok (.invokevirtual 153, 3) := by decide +kernel
theorem dX10_way_21 : decode cX10_way 21 = .ok (.aload_n 0, 1) := by decide +kernel
theorem dX10_way_22 : decode cX10_way 22 = .ok (.getfield 35, 3) := by decide +kernel
theorem dX10_way_25 : decode cX10_way 25 = .ok (.iload_n 1, 1) := by decide +kernel
theorem dX10_way_26 : decode cX10_way 26 = .ok (.invokevirtual 183, 3) := by decide +kernel
theorem dX10_way_29 : decode cX10_way 29 = .ok (.aload_n 0, 1) := by decide +kernel
theorem dX10_way_30 : decode cX10_way 30 = .ok (.getfield 35, 3) := by decide +kernel
theorem dX10_way_33 : decode cX10_way 33 = .ok (.getfield 156, 3) := by decide +kernel
theorem dX10_way_36 : decode cX10_way 36 = .ok (.iand, 1) := by decide +kernel
theorem dX10_way_37 : decode cX10_way 37 = .ok (.ifCond .eq 6, 3) := by decide +kernel
theorem dX10_way_40 : decode cX10_way 40 = .ok (.bipush (-2), 2) := by decide +kernel
theorem dX10_way_42 : decode cX10_way 42 = .ok (.ireturn, 1) := by decide +kernel
theorem dX10_way_43 : decode cX10_way 43 = .ok (.aload_n 0, 1) := by decide +kernel
theorem dX10_way_44 : decode cX10_way 44 = .ok (.getfield 44, 3) := by decide +kernel
theorem dX10_way_47 : decode cX10_way 47 = .ok (.iconst (-1), 1) := by decide +kernel
theorem dX10_way_48 : decode cX10_way 48 = .ok (.invokevirtual 176, 3) := by decide +kernel
theorem dX10_way_51 : decode cX10_way 51 = .ok (.iload_n 2, 1) := by decide +kernel
theorem dX10_way_52 : decode cX10_way 52 = .ok (.bipush 20, 2) := by decide +kernel
theorem dX10_way_54 : decode cX10_way 54 = .ok (.invokestatic 186, 3) := by decide +kernel
theorem dX10_way_57 : decode cX10_way 57 = .ok (.istore_n 3, 1) := by decide +kernel
theorem dX10_way_58 : decode cX10_way 58 = .ok (.iload_n 1, 1) := by decide +kernel
theorem dX10_way_59 : decode cX10_way 59 = .ok (.istore 4, 2) := by decide +kernel
theorem dX10_way_61 : decode cX10_way 61 = .ok (.iconst 0, 1) := by decide +kernel
theorem dX10_way_62 : decode cX10_way 62 = .ok (.istore 5, 2) := by decide +kernel
theorem dX10_way_64 : decode cX10_way 64 = .ok (.iload 5, 2) := by decide +kernel
theorem dX10_way_66 : decode cX10_way 66 = .ok (.iload_n 3, 1) := by decide +kernel
theorem dX10_way_67 : decode cX10_way 67 = .ok (.if_icmp .ge 27, 3) := by decide +kernel
theorem dX10_way_70 : decode cX10_way 70 = .ok (.iload 4, 2) := by decide +kernel
theorem dX10_way_72 : decode cX10_way 72 = .ok (.bipush (-4), 2) := by decide +kernel
theorem dX10_way_74 : decode cX10_way 74 = .ok (.if_icmp .eq 20, 3) := by decide +kernel
theorem dX10_way_77 : decode cX10_way 77 = .ok (.aload_n 0, 1) := by decide +kernel
theorem dX10_way_78 : decode cX10_way 78 = .ok (.getfield 44, 3) := by decide +kernel
theorem dX10_way_81 : decode cX10_way 81 = .ok (.iload 4, 2) := by decide +kernel
theorem dX10_way_83 : decode cX10_way 83 = .ok (.invokevirtual 192, 3) := by decide +kernel
theorem dX10_way_86 : decode cX10_way 86 = .ok (.istore 4, 2) := by decide +kernel
theorem dX10_way_88 : decode cX10_way 88 = .ok (.iinc 5 1, 3) := by decide +kernel
theorem dX10_way_91 : decode cX10_way 91 = .ok (.goto (-27), 3) := by decide +kernel
theorem dX10_way_94 : decode cX10_way 94 = .ok (.iload 4, 2) := by decide +kernel
theorem dX10_way_96 : decode cX10_way 96 = .ok (.ireturn, 1) := by decide +kernel
theorem dX10_endless_0 : decode cX10_endless 0 = .ok (.aload_n 0, 1) := by decide +kernel
theorem dX10_endless_1 : decode cX10_endless 1 = .ok (.iload_n 1, 1) := by decide +kernel
theorem dX10_endless_2 : decode cX10_endless 2 = .ok (.invokevirtual 98, 3) := by decide +kernel
theorem dX10_endless_5 : decode cX10_endless 5 = .ok (.ifCond .ne 5, 3) := by decide +kernel
theorem dX10_endless_8 : decode cX10_endless 8 = .ok (.iconst (-1), 1) := by decide +kernel
theorem dX10_endless_9 : decode cX10_endless 9 = .ok (.ireturn, 1) := by decide +kernel
theorem dX10_endless_10 : decode cX10_endless 10 = .ok (.aload_n 0, 1) := by decide +kernel
theorem dX10_endless_11 : decode cX10_endless 11 = .ok (.getfield 35, 3) := by decide +kernel
theorem dX10_endless_14 : decode cX10_endless 14 = .ok (.invokevirtual 153, 3) := by decide +kernel
theorem dX10_endless_17 : decode cX10_endless 17 = .ok (.aload_n 0, 1) := by decide +kernel
theorem dX10_endless_18 : decode cX10_endless 18 = .ok (.getfield 35, 3) := by decide +kernel
theorem dX10_endless_21 : decode cX10_endless 21 = .ok (.iload_n 1, 1) := by decide +kernel
theorem dX10_endless_22 : decode cX10_endless 22 = .ok (.invokevirtual 183, 3) := by decide +kernel
theorem dX10_endless_25 : decode cX10_endless 25 = .ok (.aload_n 0, 1) := by decide +kernel
theorem dX10_endless_26 : decode cX10_endless 26 = .ok (.getfield 35, 3) := by decide +kernel
theorem dX10_endless_29 : decode cX10_endless 29 = .ok (.getfield 156, 3) := by decide +kernel
theorem dX10_endless_32 : decode cX10_endless 32 = .ok (.iand, 1) := by decide +kernel
theorem dX10_endless_33 : decode cX10_endless 33 = .ok (.aload_n 0, 1) := by decide +kernel
theorem dX10_endless_34 : decode cX10_endless 34 = .ok (.getfield 10, 3) := by decide +kernel
theorem dX10_endless_37 : decode cX10_endless 37 = .ok (.invokevirtual 195, 3) := by decide +kernel
theorem dX10_endless_40 : decode cX10_endless 40 = .ok (.iand, 1) := by decide +kernel
theorem dX10_endless_41 : decode cX10_endless 41 = .ok (.invokestatic 162, 3) := by decide +kernel
theorem dX10_endless_44 : decode cX10_endless 44 = .ok (.ireturn, 1) := by decide +kernel
theorem dX10_interrupt_0 : decode cX10_interrupt 0 = .ok (.iload_n 1, 1) := by decide +kernel
theorem dX10_interrupt_1 : decode cX10_interrupt 1 = .ok (.iconst 1, 1) := by decide +kernel
theorem dX10_interrupt_2 : decode cX10_interrupt 2 = .ok (.bipush 7, 2) := by decide +kernel
theorem dX10_interrupt_4 : decode cX10_interrupt 4 = .ok (.invokestatic 83, 3) := by decide +kernel
theorem dX10_interrupt_7 : decode cX10_interrupt 7 = .ok (.ifCond .eq 21, 3) := by decide +kernel
theorem dX10_interrupt_10 : decode cX10_interrupt 10 = .ok (.aload_n 0, 1) := by decide +kernel
theorem dX10_interrupt_11 : decode cX10_interrupt 11 = .ok (.iload_n 2, 1) := by decide +kernel
theorem dX10_interrupt_12 : decode cX10_interrupt 12 = .ok (.invokevirtual 98, 3) := by decide +kernel
theorem dX10_interrupt_15 : decode cX10_interrupt 15 = .ok (.ifCond .eq 13, 3) := by decide +kernel
theorem dX10_interrupt_18 : decode cX10_interrupt 18 = .ok (.iload_n 3, 1) := by decide +kernel
theorem dX10_interrupt_19 : decode cX10_interrupt 19 = .ok (.iconst 0, 1) := by decide +kernel
theorem dX10_interrupt_20 : decode cX10_interrupt 20 = .ok (.bipush 100, 2) := by decide +kernel
theorem dX10_interrupt_22 : decode cX10_interrupt 22 = .ok (.invokestatic 83, 3) := by decide +kernel
theorem dX10_interrupt_25 : decode cX10_interrupt 25 = .ok (.ifCond .ne 5, 3) := by decide +kernel
theorem dX10_interrupt_28 : decode cX10_interrupt 28 = .ok (.iconst (-1), 1) := by decide +kernel
theorem dX10_interrupt_29 : decode cX10_interrupt 29 = .ok (.ireturn, 1) := by decide +kernel
theorem dX10_interrupt_30 : decode cX10_interrupt 30 = .ok (.aload_n 0, 1) := by decide +kernel
theorem dX10_interrupt_31 : decode cX10_interrupt 31 = .ok (.getfield 51, 3) := by decide +kernel
theorem dX10_interrupt_34 : decode cX10_interrupt 34 = .ok (.getfield 199, 3) := by decide +kernel
theorem dX10_interrupt_37 : decode cX10_interrupt 37 = .ok (.bipush 8, 2) := by decide +kernel
theorem dX10_interrupt_39 : decode cX10_interrupt 39 = .ok (.if_icmp .lt 6, 3) := by decide +kernel
theorem dX10_interrupt_42 : decode cX10_interrupt 42 = .ok (.bipush (-3), 2) := by decide +kernel
theorem dX10_interrupt_44 : decode cX10_interrupt 44 = .ok (.ireturn, 1) := by decide +kernel
theorem dX10_interrupt_45 : decode cX10_interrupt 45 = .ok (.aload_n 0, 1) := by decide +kernel
theorem dX10_interrupt_46 : decode cX10_interrupt 46 = .ok (.getfield 51, 3) := by decide +kernel
theorem dX10_interrupt_49 : decode cX10_interrupt 49 = .ok (.iload_n 1, 1) := by decide +kernel
theorem dX10_interrupt_50 : decode cX10_interrupt 50 = .ok (.iload_n 2, 1) := by decide +kernel
theorem dX10_interrupt_51 : decode cX10_interrupt 51 = .ok (.iload_n 3, 1) := by decide +kernel
theorem dX10_interrupt_52 : decode cX10_interrupt 52 = .ok (.invokevirtual 200, 3) := by decide +kernel
theorem dX10_interrupt_55 : decode cX10_interrupt 55 = .ok (.ireturn, 1) := by decide +kernel
theorem dX10_task_0 : decode cX10_task 0 = .ok (.aload_n 0, 1) := by decide +kernel
theorem dX10_task_1 : decode cX10_task 1 = .ok (.iload_n 1, 1) := by decide +kernel
theorem dX10_task_2 : decode cX10_task 2 = .ok (.invokevirtual 98, 3) := by decide +kernel
theorem dX10_task_5 : decode cX10_task 5 = .ok (.ifCond .eq 23, 3) := by decide +kernel
theorem dX10_task_8 : decode cX10_task 8 = .ok (.iload_n 2, 1) := by decide +kernel
theorem dX10_task_9 : decode cX10_task 9 = .ok (.iconst 0, 1) := by decide +kernel
theorem dX10_task_10 : decode cX10_task 10 = .ok (.bipush 7, 2) := by decide +kernel
theorem dX10_task_12 : decode cX10_task 12 = .ok (.invokestatic 83, 3) := by decide +kernel
theorem dX10_task_15 : decode cX10_task 15 = .ok (.ifCond .eq 13, 3) := by decide +kernel
theorem dX10_task_18 : decode cX10_task 18 = .ok (.iload_n 3, 1) := by decide +kernel
theorem dX10_task_19 : decode cX10_task 19 = .ok (.iconst 0, 1) := by decide +kernel
theorem dX10_task_20 : decode cX10_task 20 = .ok (.bipush 100, 2) := by decide +kernel
theorem dX10_task_22 : decode cX10_task 22 = .ok (.invokestatic 83, 3) := by decide +kernel
theorem dX10_task_25 : decode cX10_task 25 = .ok (.ifCond .ne 5, 3) := by decide +kernel
theorem dX10_task_28 : decode cX10_task 28 = .ok (.iconst (-1), 1) := by decide +kernel
theorem dX10_task_29 : decode cX10_task 29 = .ok (.ireturn, 1) := by decide +kernel
theorem dX10_task_30 : decode cX10_task 30 = .ok (.aload_n 0, 1) := by decide +kernel
theorem dX10_task_31 : decode cX10_task 31 = .ok (.getfield 58, 3) := by decide +kernel
theorem dX10_task_34 : decode cX10_task 34 = .ok (.getfield 202, 3) := by decide +kernel
theorem dX10_task_37 : decode cX10_task 37 = .ok (.bipush 6, 2) := by decide +kernel
theorem dX10_task_39 : decode cX10_task 39 = .ok (.if_icmp .lt 6, 3) := by decide +kernel
theorem dX10_task_42 : decode cX10_task 42 = .ok (.bipush (-3), 2) := by decide +kernel
theorem dX10_task_44 : decode cX10_task 44 = .ok (.ireturn, 1) := by decide +kernel
theorem dX10_task_45 : decode cX10_task 45 = .ok (.aload_n 0, 1) := by decide +kernel
theorem dX10_task_46 : decode cX10_task 46 = .ok (.getfield 58, 3) := by decide +kernel
theorem dX10_task_49 : decode cX10_task 49 = .ok (.iload_n 1, 1) := by decide +kernel
theorem dX10_task_50 : decode cX10_task 50 = .ok (.iload_n 2, 1) := by decide +kernel
theorem dX10_task_51 : decode cX10_task 51 = .ok (.iload_n 3, 1) := by decide +kernel
theorem dX10_task_52 : decode cX10_task 52 = .ok (.invokevirtual 203, 3) := by decide +kernel
theorem dX10_task_55 : decode cX10_task 55 = .ok (.ireturn, 1) := by decide +kernel
theorem dX10_total_0 : decode cX10_total 0 = .ok (.aload_n 0, 1) := by decide +kernel
theorem dX10_total_1 : decode cX10_total 1 = .ok (.iload_n 1, 1) := by decide +kernel
theorem dX10_total_2 : decode cX10_total 2 = .ok (.invokevirtual 204, 3) := by decide +kernel
theorem dX10_total_5 : decode cX10_total 5 = .ok (.ifCond .ne 5, 3) := by decide +kernel
theorem dX10_total_8 : decode cX10_total 8 = .ok (.iconst (-1), 1) := by decide +kernel
theorem dX10_total_9 : decode cX10_total 9 = .ok (.ireturn, 1) := by decide +kernel
theorem dX10_total_10 : decode cX10_total 10 = .ok (.aload_n 0, 1) := by decide +kernel
theorem dX10_total_11 : decode cX10_total 11 = .ok (.getfield 44, 3) := by decide +kernel
theorem dX10_total_14 : decode cX10_total 14 = .ok (.iconst (-1), 1) := by decide +kernel
theorem dX10_total_15 : decode cX10_total 15 = .ok (.invokevirtual 176, 3) := by decide +kernel
theorem dX10_total_18 : decode cX10_total 18 = .ok (.iload_n 2, 1) := by decide +kernel
theorem dX10_total_19 : decode cX10_total 19 = .ok (.tableswitch 83 0 3 #[29, 47, 71, 77], 29) := by decide +kernel
theorem dX10_total_48 : decode cX10_total 48 = .ok (.aload_n 0, 1) := by decide +kernel
theorem dX10_total_49 : decode cX10_total 49 = .ok (.getfield 44, 3) := by decide +kernel
theorem dX10_total_52 : decode cX10_total 52 = .ok (.getfield 180, 3) := by decide +kernel
theorem dX10_total_55 : decode cX10_total 55 = .ok (.aload_n 0, 1) := by decide +kernel
theorem dX10_total_56 : decode cX10_total 56 = .ok (.getfield 58, 3) := by decide +kernel
theorem dX10_total_59 : decode cX10_total 59 = .ok (.getfield 207, 3) := by decide +kernel
theorem dX10_total_62 : decode cX10_total 62 = .ok (.iload_n 1, 1) := by decide +kernel
theorem dX10_total_63 : decode cX10_total 63 = .ok (.iaload, 1) := by decide +kernel
theorem dX10_total_64 : decode cX10_total 64 = .ok (.iaload, 1) := by decide +kernel
theorem dX10_total_65 : decode cX10_total 65 = .ok (.ireturn, 1) := by decide +kernel
theorem dX10_total_66 : decode cX10_total 66 = .ok (.aload_n 0, 1) := by decide +kernel
theorem dX10_total_67 : decode cX10_total 67 = .ok (.getfield 51, 3) := by decide +kernel
theorem dX10_total_70 : decode cX10_total 70 = .ok (.aload_n 0, 1) := by decide +kernel
theorem dX10_total_71 : decode cX10_total 71 = .ok (.getfield 58, 3) := by decide +kernel
theorem dX10_total_74 : decode cX10_total 74 = .ok (.getfield 209, 3) := by decide +kernel
theorem dX10_total_77 : decode cX10_total 77 = .ok (.iload_n 1, 1) := by decide +kernel
theorem dX10_total_78 : decode cX10_total 78 = .ok (.iaload, 1) := by decide +kernel
theorem dX10_total_79 : decode cX10_total 79 = .ok (.aload_n 0, 1) := by decide +kernel
theorem dX10_total_80 : decode cX10_total 80 = .ok (.getfield 44, 3) := by decide +kernel
theorem dX10_total_83 : decode cX10_total 83 = .ok (.getfield 180, 3) := by decide +kernel
theorem dX10_total_86 : decode cX10_total 86 = .ok (.invokevirtual 212, 3) := by decide +kernel
theorem dX10_total_89 : decode cX10_total 89 = .ok (.ireturn, 1) := by decide +kernel
theorem dX10_total_90 : decode cX10_total 90 = .ok (.aload_n 0, 1) := by decide +kernel
theorem dX10_total_91 : decode cX10_total 91 = .ok (.iload_n 1, 1) := by decide +kernel
theorem dX10_total_92 : decode cX10_total 92 = .ok (.invokevirtual 216, 3) := by decide +kernel
theorem dX10_total_95 : decode cX10_total 95 = .ok (.ireturn, 1) := by decide +kernel
theorem dX10_total_96 : decode cX10_total 96 = .ok (.aload_n 0, 1) := by decide +kernel
theorem dX10_total_97 : decode cX10_total 97 = .ok (.iload_n 1, 1) := by decide +kernel
theorem dX10_total_98 : decode cX10_total 98 = .ok (.invokevirtual 219, 3) := by decide +kernel
theorem dX10_total_101 : decode cX10_total 101 = .ok (.ireturn, 1) := by decide +kernel
theorem dX10_total_102 : decode cX10_total 102 = .ok (.iconst (-1), 1) := by decide +kernel
theorem dX10_total_103 : decode cX10_total 103 = .ok (.ireturn, 1) := by decide +kernel
theorem dX10_apart_0 : decode cX10_apart 0 = .ok (.aload_n 0, 1) := by decide +kernel
theorem dX10_apart_1 : decode cX10_apart 1 = .ok (.iload_n 1, 1) := by decide +kernel
theorem dX10_apart_2 : decode cX10_apart 2 = .ok (.invokevirtual 204, 3) := by decide +kernel
theorem dX10_apart_5 : decode cX10_apart 5 = .ok (.ifCond .eq 16, 3) := by decide +kernel
theorem dX10_apart_8 : decode cX10_apart 8 = .ok (.aload_n 0, 1) := by decide +kernel
theorem dX10_apart_9 : decode cX10_apart 9 = .ok (.iload_n 2, 1) := by decide +kernel
theorem dX10_apart_10 : decode cX10_apart 10 = .ok (.invokevirtual 204, 3) := by decide +kernel
theorem dX10_apart_13 : decode cX10_apart 13 = .ok (.ifCond .eq 8, 3) := by decide +kernel
theorem dX10_apart_16 : decode cX10_apart 16 = .ok (.iload_n 1, 1) := by decide +kernel
theorem dX10_apart_17 : decode cX10_apart 17 = .ok (.iload_n 2, 1) := by decide +kernel
theorem dX10_apart_18 : decode cX10_apart 18 = .ok (.if_icmp .ne 5, 3) := by decide +kernel
theorem dX10_apart_21 : decode cX10_apart 21 = .ok (.iconst (-1), 1) := by decide +kernel
theorem dX10_apart_22 : decode cX10_apart 22 = .ok (.ireturn, 1) := by decide +kernel
theorem dX10_apart_23 : decode cX10_apart 23 = .ok (.aload_n 0, 1) := by decide +kernel
theorem dX10_apart_24 : decode cX10_apart 24 = .ok (.getfield 58, 3) := by decide +kernel
theorem dX10_apart_27 : decode cX10_apart 27 = .ok (.getfield 222, 3) := by decide +kernel
theorem dX10_apart_30 : decode cX10_apart 30 = .ok (.iload_n 1, 1) := by decide +kernel
theorem dX10_apart_31 : decode cX10_apart 31 = .ok (.iaload, 1) := by decide +kernel
theorem dX10_apart_32 : decode cX10_apart 32 = .ok (.iload_n 2, 1) := by decide +kernel
theorem dX10_apart_33 : decode cX10_apart 33 = .ok (.invokestatic 136, 3) := by decide +kernel
theorem dX10_apart_36 : decode cX10_apart 36 = .ok (.ifCond .eq 7, 3) := by decide +kernel
theorem dX10_apart_39 : decode cX10_apart 39 = .ok (.iconst 1, 1) := by decide +kernel
theorem dX10_apart_40 : decode cX10_apart 40 = .ok (.goto 4, 3) := by decide +kernel
theorem dX10_apart_43 : decode cX10_apart 43 = .ok (.iconst 0, 1) := by decide +kernel
theorem dX10_apart_44 : decode cX10_apart 44 = .ok (.istore 4, 2) := by decide +kernel
theorem dX10_apart_46 : decode cX10_apart 46 = .ok (.aload_n 0, 1) := by decide +kernel
theorem dX10_apart_47 : decode cX10_apart 47 = .ok (.getfield 58, 3) := by decide +kernel
theorem dX10_apart_50 : decode cX10_apart 50 = .ok (.iload_n 1, 1) := by decide +kernel
theorem dX10_apart_51 : decode cX10_apart 51 = .ok (.iload_n 2, 1) := by decide +kernel
theorem dX10_apart_52 : decode cX10_apart 52 = .ok (.iload_n 3, 1) := by decide +kernel
theorem dX10_apart_53 : decode cX10_apart 53 = .ok (.invokevirtual 225, 3) := by decide +kernel
theorem dX10_apart_56 : decode cX10_apart 56 = .ok (.iload 4, 2) := by decide +kernel
theorem dX10_apart_58 : decode cX10_apart 58 = .ok (.ireturn, 1) := by decide +kernel
theorem dX10_shared_0 : decode cX10_shared 0 = .ok (.aload_n 0, 1) := by decide +kernel
theorem dX10_shared_1 : decode cX10_shared 1 = .ok (.invokevirtual 229, 3) := by decide +kernel
theorem dX10_shared_4 : decode cX10_shared 4 = .ok (.ireturn, 1) := by decide +kernel
theorem dX10_group_0 : decode cX10_group 0 = .ok (.aload_n 0, 1) := by decide +kernel
theorem dX10_group_1 : decode cX10_group 1 = .ok (.iload_n 1, 1) := by decide +kernel
theorem dX10_group_2 : decode cX10_group 2 = .ok (.invokevirtual 204, 3) := by decide +kernel
theorem dX10_group_5 : decode cX10_group 5 = .ok (.ifCond .ne 5, 3) := by decide +kernel
theorem dX10_group_8 : decode cX10_group 8 = .ok (.iconst (-1), 1) := by decide +kernel
theorem dX10_group_9 : decode cX10_group 9 = .ok (.ireturn, 1) := by decide +kernel
theorem dX10_group_10 : decode cX10_group 10 = .ok (.aload_n 0, 1) := by decide +kernel
theorem dX10_group_11 : decode cX10_group 11 = .ok (.invokevirtual 229, 3) := by decide +kernel
theorem dX10_group_14 : decode cX10_group 14 = .ok (.bipush (-5), 2) := by decide +kernel
theorem dX10_group_16 : decode cX10_group 16 = .ok (.if_icmp .ne 8, 3) := by decide +kernel
theorem dX10_group_19 : decode cX10_group 19 = .ok (.bipush (-5), 2) := by decide +kernel
theorem dX10_group_21 : decode cX10_group 21 = .ok (.goto 12, 3) := by decide +kernel
theorem dX10_group_24 : decode cX10_group 24 = .ok (.aload_n 0, 1) := by decide +kernel
theorem dX10_group_25 : decode cX10_group 25 = .ok (.getfield 65, 3) := by decide +kernel
theorem dX10_group_28 : decode cX10_group 28 = .ok (.getfield 232, 3) := by decide +kernel
theorem dX10_group_31 : decode cX10_group 31 = .ok (.iload_n 1, 1) := by decide +kernel
theorem dX10_group_32 : decode cX10_group 32 = .ok (.iaload, 1) := by decide +kernel
theorem dX10_group_33 : decode cX10_group 33 = .ok (.ireturn, 1) := by decide +kernel
theorem dX10_saves_0 : decode cX10_saves 0 = .ok (.aload_n 0, 1) := by decide +kernel
theorem dX10_saves_1 : decode cX10_saves 1 = .ok (.iload_n 1, 1) := by decide +kernel
theorem dX10_saves_2 : decode cX10_saves 2 = .ok (.invokevirtual 204, 3) := by decide +kernel
theorem dX10_saves_5 : decode cX10_saves 5 = .ok (.ifCond .eq 11, 3) := by decide +kernel
theorem dX10_saves_8 : decode cX10_saves 8 = .ok (.aload_n 0, 1) := by decide +kernel
theorem dX10_saves_9 : decode cX10_saves 9 = .ok (.iload_n 2, 1) := by decide +kernel
theorem dX10_saves_10 : decode cX10_saves 10 = .ok (.invokevirtual 98, 3) := by decide +kernel
theorem dX10_saves_13 : decode cX10_saves 13 = .ok (.ifCond .ne 5, 3) := by decide +kernel
theorem dX10_saves_16 : decode cX10_saves 16 = .ok (.iconst (-1), 1) := by decide +kernel
theorem dX10_saves_17 : decode cX10_saves 17 = .ok (.ireturn, 1) := by decide +kernel
theorem dX10_saves_18 : decode cX10_saves 18 = .ok (.aload_n 0, 1) := by decide +kernel
theorem dX10_saves_19 : decode cX10_saves 19 = .ok (.iload_n 1, 1) := by decide +kernel
theorem dX10_saves_20 : decode cX10_saves 20 = .ok (.iconst (-1), 1) := by decide +kernel
theorem dX10_saves_21 : decode cX10_saves 21 = .ok (.invokevirtual 235, 3) := by decide +kernel
theorem dX10_saves_24 : decode cX10_saves 24 = .ok (.istore_n 3, 1) := by decide +kernel
theorem dX10_saves_25 : decode cX10_saves 25 = .ok (.iload_n 3, 1) := by decide +kernel
theorem dX10_saves_26 : decode cX10_saves 26 = .ok (.bipush (-5), 2) := by decide +kernel
theorem dX10_saves_28 : decode cX10_saves 28 = .ok (.if_icmp .ne 8, 3) := by decide +kernel
theorem dX10_saves_31 : decode cX10_saves 31 = .ok (.bipush (-5), 2) := by decide +kernel
theorem dX10_saves_33 : decode cX10_saves 33 = .ok (.goto 11, 3) := by decide +kernel
theorem dX10_saves_36 : decode cX10_saves 36 = .ok (.iload_n 3, 1) := by decide +kernel
theorem dX10_saves_37 : decode cX10_saves 37 = .ok (.aload_n 0, 1) := by decide +kernel
theorem dX10_saves_38 : decode cX10_saves 38 = .ok (.iload_n 1, 1) := by decide +kernel
theorem dX10_saves_39 : decode cX10_saves 39 = .ok (.iload_n 2, 1) := by decide +kernel
theorem dX10_saves_40 : decode cX10_saves 40 = .ok (.invokevirtual 235, 3) := by decide +kernel
theorem dX10_saves_43 : decode cX10_saves 43 = .ok (.isub, 1) := by decide +kernel
theorem dX10_saves_44 : decode cX10_saves 44 = .ok (.ireturn, 1) := by decide +kernel
theorem dX10_best_0 : decode cX10_best 0 = .ok (.aload_n 0, 1) := by decide +kernel
theorem dX10_best_1 : decode cX10_best 1 = .ok (.iload_n 1, 1) := by decide +kernel
theorem dX10_best_2 : decode cX10_best 2 = .ok (.invokevirtual 204, 3) := by decide +kernel
theorem dX10_best_5 : decode cX10_best 5 = .ok (.ifCond .ne 5, 3) := by decide +kernel
theorem dX10_best_8 : decode cX10_best 8 = .ok (.iconst (-1), 1) := by decide +kernel
theorem dX10_best_9 : decode cX10_best 9 = .ok (.ireturn, 1) := by decide +kernel
theorem dX10_best_10 : decode cX10_best 10 = .ok (.aload_n 0, 1) := by decide +kernel
theorem dX10_best_11 : decode cX10_best 11 = .ok (.iload_n 1, 1) := by decide +kernel
theorem dX10_best_12 : decode cX10_best 12 = .ok (.iconst (-1), 1) := by decide +kernel
theorem dX10_best_13 : decode cX10_best 13 = .ok (.invokevirtual 235, 3) := by decide +kernel
theorem dX10_best_16 : decode cX10_best 16 = .ok (.istore_n 2, 1) := by decide +kernel
theorem dX10_best_17 : decode cX10_best 17 = .ok (.iload_n 2, 1) := by decide +kernel
theorem dX10_best_18 : decode cX10_best 18 = .ok (.bipush (-5), 2) := by decide +kernel
theorem dX10_best_20 : decode cX10_best 20 = .ok (.if_icmp .ne 6, 3) := by decide +kernel
theorem dX10_best_23 : decode cX10_best 23 = .ok (.bipush (-5), 2) := by decide +kernel
theorem dX10_best_25 : decode cX10_best 25 = .ok (.ireturn, 1) := by decide +kernel
theorem dX10_best_26 : decode cX10_best 26 = .ok (.iload_n 2, 1) := by decide +kernel
theorem dX10_best_27 : decode cX10_best 27 = .ok (.istore_n 3, 1) := by decide +kernel
theorem dX10_best_28 : decode cX10_best 28 = .ok (.bipush (-4), 2) := by decide +kernel
theorem dX10_best_30 : decode cX10_best 30 = .ok (.istore 4, 2) := by decide +kernel
theorem dX10_best_32 : decode cX10_best 32 = .ok (.iconst 0, 1) := by decide +kernel
theorem dX10_best_33 : decode cX10_best 33 = .ok (.istore 5, 2) := by decide +kernel
theorem dX10_best_35 : decode cX10_best 35 = .ok (.iload 5, 2) := by decide +kernel
theorem dX10_best_37 : decode cX10_best 37 = .ok (.aload_n 0, 1) := by decide +kernel
theorem dX10_best_38 : decode cX10_best 38 = .ok (.getfield 10, 3) := by decide +kernel
theorem dX10_best_41 : decode cX10_best 41 = .ok (.getfield 87, 3) := by decide +kernel
theorem dX10_best_44 : decode cX10_best 44 = .ok (.if_icmp .ge 31, 3) := by decide +kernel
theorem dX10_best_47 : decode cX10_best 47 = .ok (.aload_n 0, 1) := by decide +kernel
theorem dX10_best_48 : decode cX10_best 48 = .ok (.iload_n 1, 1) := by decide +kernel
theorem dX10_best_49 : decode cX10_best 49 = .ok (.iload 5, 2) := by decide +kernel
theorem dX10_best_51 : decode cX10_best 51 = .ok (.invokevirtual 235, 3) := by decide +kernel
theorem dX10_best_54 : decode cX10_best 54 = .ok (.istore 6, 2) := by decide +kernel
theorem dX10_best_56 : decode cX10_best 56 = .ok (.iload 6, 2) := by decide +kernel
theorem dX10_best_58 : decode cX10_best 58 = .ok (.iload_n 3, 1) := by decide +kernel
theorem dX10_best_59 : decode cX10_best 59 = .ok (.if_icmp .ge 10, 3) := by decide +kernel
theorem dX10_best_62 : decode cX10_best 62 = .ok (.iload 6, 2) := by decide +kernel
theorem dX10_best_64 : decode cX10_best 64 = .ok (.istore_n 3, 1) := by decide +kernel
theorem dX10_best_65 : decode cX10_best 65 = .ok (.iload 5, 2) := by decide +kernel
theorem dX10_best_67 : decode cX10_best 67 = .ok (.istore 4, 2) := by decide +kernel
theorem dX10_best_69 : decode cX10_best 69 = .ok (.iinc 5 1, 3) := by decide +kernel
theorem dX10_best_72 : decode cX10_best 72 = .ok (.goto (-37), 3) := by decide +kernel
theorem dX10_best_75 : decode cX10_best 75 = .ok (.iload 4, 2) := by decide +kernel
theorem dX10_best_77 : decode cX10_best 77 = .ok (.ireturn, 1) := by decide +kernel
theorem dX10_run_0 : decode cX10_run 0 = .ok (.aload_n 0, 1) := by decide +kernel
theorem dX10_run_1 : decode cX10_run 1 = .ok (.iload_n 1, 1) := by decide +kernel
theorem dX10_run_2 : decode cX10_run 2 = .ok (.invokevirtual 98, 3) := by decide +kernel
theorem dX10_run_5 : decode cX10_run 5 = .ok (.ifCond .ne 5, 3) := by decide +kernel
theorem dX10_run_8 : decode cX10_run 8 = .ok (.iconst (-1), 1) := by decide +kernel
theorem dX10_run_9 : decode cX10_run 9 = .ok (.ireturn, 1) := by decide +kernel
theorem dX10_run_10 : decode cX10_run 10 = .ok (.aload_n 0, 1) := by decide +kernel
theorem dX10_run_11 : decode cX10_run 11 = .ok (.getfield 72, 3) := by decide +kernel
theorem dX10_run_14 : decode cX10_run 14 = .ok (.iload_n 1, 1) := by decide +kernel
theorem dX10_run_15 : decode cX10_run 15 = .ok (.invokevirtual 238, 3) := by decide +kernel
theorem dX10_run_18 : decode cX10_run 18 = .ok (.aload_n 0, 1) := by decide +kernel
theorem dX10_run_19 : decode cX10_run 19 = .ok (.getfield 72, 3) := by decide +kernel
theorem dX10_run_22 : decode cX10_run 22 = .ok (.iload_n 1, 1) := by decide +kernel
theorem dX10_run_23 : decode cX10_run 23 = .ok (.aload_n 0, 1) := by decide +kernel
theorem dX10_run_24 : decode cX10_run 24 = .ok (.getfield 10, 3) := by decide +kernel
theorem dX10_run_27 : decode cX10_run 27 = .ok (.getfield 102, 3) := by decide +kernel
theorem dX10_run_30 : decode cX10_run 30 = .ok (.iload_n 1, 1) := by decide +kernel
theorem dX10_run_31 : decode cX10_run 31 = .ok (.iaload, 1) := by decide +kernel
theorem dX10_run_32 : decode cX10_run 32 = .ok (.invokevirtual 241, 3) := by decide +kernel
theorem dX10_run_35 : decode cX10_run 35 = .ok (.aload_n 0, 1) := by decide +kernel
theorem dX10_run_36 : decode cX10_run 36 = .ok (.getfield 72, 3) := by decide +kernel
theorem dX10_run_39 : decode cX10_run 39 = .ok (.getfield 244, 3) := by decide +kernel
theorem dX10_run_42 : decode cX10_run 42 = .ok (.ireturn, 1) := by decide +kernel
theorem dX10_enter_0 : decode cX10_enter 0 = .ok (.aload_n 0, 1) := by decide +kernel
theorem dX10_enter_1 : decode cX10_enter 1 = .ok (.iload_n 1, 1) := by decide +kernel
theorem dX10_enter_2 : decode cX10_enter 2 = .ok (.invokevirtual 98, 3) := by decide +kernel
theorem dX10_enter_5 : decode cX10_enter 5 = .ok (.ifCond .ne 5, 3) := by decide +kernel
theorem dX10_enter_8 : decode cX10_enter 8 = .ok (.iconst (-1), 1) := by decide +kernel
theorem dX10_enter_9 : decode cX10_enter 9 = .ok (.ireturn, 1) := by decide +kernel
theorem dX10_enter_10 : decode cX10_enter 10 = .ok (.aload_n 0, 1) := by decide +kernel
theorem dX10_enter_11 : decode cX10_enter 11 = .ok (.getfield 72, 3) := by decide +kernel
theorem dX10_enter_14 : decode cX10_enter 14 = .ok (.getfield 247, 3) := by decide +kernel
theorem dX10_enter_17 : decode cX10_enter 17 = .ok (.ifCond .ne 6, 3) := by decide +kernel
theorem dX10_enter_20 : decode cX10_enter 20 = .ok (.bipush (-2), 2) := by decide +kernel
theorem dX10_enter_22 : decode cX10_enter 22 = .ok (.ireturn, 1) := by decide +kernel
theorem dX10_enter_23 : decode cX10_enter 23 = .ok (.aload_n 0, 1) := by decide +kernel
theorem dX10_enter_24 : decode cX10_enter 24 = .ok (.getfield 72, 3) := by decide +kernel
theorem dX10_enter_27 : decode cX10_enter 27 = .ok (.getfield 247, 3) := by decide +kernel
theorem dX10_enter_30 : decode cX10_enter 30 = .ok (.bipush 40, 2) := by decide +kernel
theorem dX10_enter_32 : decode cX10_enter 32 = .ok (.if_icmp .lt 6, 3) := by decide +kernel
theorem dX10_enter_35 : decode cX10_enter 35 = .ok (.bipush (-3), 2) := by decide +kernel
theorem dX10_enter_37 : decode cX10_enter 37 = .ok (.ireturn, 1) := by decide +kernel
theorem dX10_enter_38 : decode cX10_enter 38 = .ok (.aload_n 0, 1) := by decide +kernel
theorem dX10_enter_39 : decode cX10_enter 39 = .ok (.getfield 35, 3) := by decide +kernel
theorem dX10_enter_42 : decode cX10_enter 42 = .ok (.invokevirtual 153, 3) := by decide +kernel
theorem dX10_enter_45 : decode cX10_enter 45 = .ok (.aload_n 0, 1) := by decide +kernel
theorem dX10_enter_46 : decode cX10_enter 46 = .ok (.getfield 72, 3) := by decide +kernel
theorem dX10_enter_49 : decode cX10_enter 49 = .ok (.aload_n 0, 1) := by decide +kernel
theorem dX10_enter_50 : decode cX10_enter 50 = .ok (.getfield 35, 3) := by decide +kernel
theorem dX10_enter_53 : decode cX10_enter 53 = .ok (.getfield 250, 3) := by decide +kernel
theorem dX10_enter_56 : decode cX10_enter 56 = .ok (.aload_n 0, 1) := by decide +kernel
theorem dX10_enter_57 : decode cX10_enter 57 = .ok (.getfield 72, 3) := by decide +kernel
theorem dX10_enter_60 : decode cX10_enter 60 = .ok (.invokevirtual 253, 3) := by decide +kernel
theorem dX10_enter_63 : decode cX10_enter 63 = .ok (.iaload, 1) := by decide +kernel
theorem dX10_enter_64 : decode cX10_enter 64 = .ok (.iload_n 1, 1) := by decide +kernel
theorem dX10_enter_65 : decode cX10_enter 65 = .ok (.invokestatic 136, 3) := by decide +kernel
theorem dX10_enter_68 : decode cX10_enter 68 = .ok (.invokevirtual 256, 3) := by decide +kernel
theorem dX10_enter_71 : decode cX10_enter 71 = .ok (.aload_n 0, 1) := by decide +kernel
theorem dX10_enter_72 : decode cX10_enter 72 = .ok (.iload_n 1, 1) := by decide +kernel
theorem dX10_enter_73 : decode cX10_enter 73 = .ok (.invokevirtual 260, 3) := by decide +kernel
theorem dX10_enter_76 : decode cX10_enter 76 = .ok (.ireturn, 1) := by decide +kernel
theorem dX10_over_0 : decode cX10_over 0 = .ok (.aload_n 0, 1) := by decide +kernel
theorem dX10_over_1 : decode cX10_over 1 = .ok (.iload_n 1, 1) := by decide +kernel
theorem dX10_over_2 : decode cX10_over 2 = .ok (.invokevirtual 98, 3) := by decide +kernel
theorem dX10_over_5 : decode cX10_over 5 = .ok (.ifCond .ne 5, 3) := by decide +kernel
theorem dX10_over_8 : decode cX10_over 8 = .ok (.iconst (-1), 1) := by decide +kernel
theorem dX10_over_9 : decode cX10_over 9 = .ok (.ireturn, 1) := by decide +kernel
theorem dX10_over_10 : decode cX10_over 10 = .ok (.aload_n 0, 1) := by decide +kernel
theorem dX10_over_11 : decode cX10_over 11 = .ok (.getfield 72, 3) := by decide +kernel
theorem dX10_over_14 : decode cX10_over 14 = .ok (.getfield 247, 3) := by decide +kernel
theorem dX10_over_17 : decode cX10_over 17 = .ok (.ifCond .ne 6, 3) := by decide +kernel
theorem dX10_over_20 : decode cX10_over 20 = .ok (.bipush (-2), 2) := by decide +kernel
theorem dX10_over_22 : decode cX10_over 22 = .ok (.ireturn, 1) := by decide +kernel
theorem dX10_over_23 : decode cX10_over 23 = .ok (.aload_n 0, 1) := by decide +kernel
theorem dX10_over_24 : decode cX10_over 24 = .ok (.getfield 35, 3) := by decide +kernel
theorem dX10_over_27 : decode cX10_over 27 = .ok (.invokevirtual 153, 3) := by decide +kernel
theorem dX10_over_30 : decode cX10_over 30 = .ok (.aload_n 0, 1) := by decide +kernel
theorem dX10_over_31 : decode cX10_over 31 = .ok (.getfield 72, 3) := by decide +kernel
theorem dX10_over_34 : decode cX10_over 34 = .ok (.aload_n 0, 1) := by decide +kernel
theorem dX10_over_35 : decode cX10_over 35 = .ok (.getfield 35, 3) := by decide +kernel
theorem dX10_over_38 : decode cX10_over 38 = .ok (.getfield 263, 3) := by decide +kernel
theorem dX10_over_41 : decode cX10_over 41 = .ok (.aload_n 0, 1) := by decide +kernel
theorem dX10_over_42 : decode cX10_over 42 = .ok (.getfield 72, 3) := by decide +kernel
theorem dX10_over_45 : decode cX10_over 45 = .ok (.invokevirtual 253, 3) := by decide +kernel
theorem dX10_over_48 : decode cX10_over 48 = .ok (.iaload, 1) := by decide +kernel
theorem dX10_over_49 : decode cX10_over 49 = .ok (.iload_n 1, 1) := by decide +kernel
theorem dX10_over_50 : decode cX10_over 50 = .ok (.invokestatic 136, 3) := by decide +kernel
theorem dX10_over_53 : decode cX10_over 53 = .ok (.invokevirtual 256, 3) := by decide +kernel
theorem dX10_over_56 : decode cX10_over 56 = .ok (.aload_n 0, 1) := by decide +kernel
theorem dX10_over_57 : decode cX10_over 57 = .ok (.getfield 72, 3) := by decide +kernel
theorem dX10_over_60 : decode cX10_over 60 = .ok (.invokevirtual 266, 3) := by decide +kernel
theorem dX10_over_63 : decode cX10_over 63 = .ok (.aload_n 0, 1) := by decide +kernel
theorem dX10_over_64 : decode cX10_over 64 = .ok (.iload_n 1, 1) := by decide +kernel
theorem dX10_over_65 : decode cX10_over 65 = .ok (.invokevirtual 260, 3) := by decide +kernel
theorem dX10_over_68 : decode cX10_over 68 = .ok (.ireturn, 1) := by decide +kernel
theorem dX10_leave_0 : decode cX10_leave 0 = .ok (.aload_n 0, 1) := by decide +kernel
theorem dX10_leave_1 : decode cX10_leave 1 = .ok (.getfield 72, 3) := by decide +kernel
theorem dX10_leave_4 : decode cX10_leave 4 = .ok (.getfield 247, 3) := by decide +kernel
theorem dX10_leave_7 : decode cX10_leave 7 = .ok (.ifCond .ne 6, 3) := by decide +kernel
theorem dX10_leave_10 : decode cX10_leave 10 = .ok (.bipush (-2), 2) := by decide +kernel
theorem dX10_leave_12 : decode cX10_leave 12 = .ok (.ireturn, 1) := by decide +kernel
theorem dX10_leave_13 : decode cX10_leave 13 = .ok (.aload_n 0, 1) := by decide +kernel
theorem dX10_leave_14 : decode cX10_leave 14 = .ok (.getfield 72, 3) := by decide +kernel
theorem dX10_leave_17 : decode cX10_leave 17 = .ok (.invokevirtual 266, 3) := by decide +kernel
theorem dX10_leave_20 : decode cX10_leave 20 = .ok (.aload_n 0, 1) := by decide +kernel
theorem dX10_leave_21 : decode cX10_leave 21 = .ok (.getfield 72, 3) := by decide +kernel
theorem dX10_leave_24 : decode cX10_leave 24 = .ok (.getfield 244, 3) := by decide +kernel
theorem dX10_leave_27 : decode cX10_leave 27 = .ok (.ireturn, 1) := by decide +kernel
theorem dX10_ran_0 : decode cX10_ran 0 = .ok (.iload_n 1, 1) := by decide +kernel
theorem dX10_ran_1 : decode cX10_ran 1 = .ok (.iconst 0, 1) := by decide +kernel
theorem dX10_ran_2 : decode cX10_ran 2 = .ok (.bipush 6, 2) := by decide +kernel
theorem dX10_ran_4 : decode cX10_ran 4 = .ok (.invokestatic 83, 3) := by decide +kernel
theorem dX10_ran_7 : decode cX10_ran 7 = .ok (.ifCond .ne 5, 3) := by decide +kernel
theorem dX10_ran_10 : decode cX10_ran 10 = .ok (.iconst (-1), 1) := by decide +kernel
theorem dX10_ran_11 : decode cX10_ran 11 = .ok (.ireturn, 1) := by decide +kernel
theorem dX10_ran_12 : decode cX10_ran 12 = .ok (.aload_n 0, 1) := by decide +kernel
theorem dX10_ran_13 : decode cX10_ran 13 = .ok (.getfield 72, 3) := by decide +kernel
theorem dX10_ran_16 : decode cX10_ran 16 = .ok (.getfield 269, 3) := by decide +kernel
theorem dX10_ran_19 : decode cX10_ran 19 = .ok (.iconst (-1), 1) := by decide +kernel
theorem dX10_ran_20 : decode cX10_ran 20 = .ok (.if_icmp .ne 6, 3) := by decide +kernel
theorem dX10_ran_23 : decode cX10_ran 23 = .ok (.bipush (-2), 2) := by decide +kernel
theorem dX10_ran_25 : decode cX10_ran 25 = .ok (.ireturn, 1) := by decide +kernel
theorem dX10_ran_26 : decode cX10_ran 26 = .ok (.iload_n 1, 1) := by decide +kernel
theorem dX10_ran_27 : decode cX10_ran 27 = .ok (.tableswitch 100 0 5 #[37, 45, 53, 61, 69, 77], 37) := by decide +kernel
theorem dX10_ran_64 : decode cX10_ran 64 = .ok (.aload_n 0, 1) := by decide +kernel
theorem dX10_ran_65 : decode cX10_ran 65 = .ok (.getfield 72, 3) := by decide +kernel
theorem dX10_ran_68 : decode cX10_ran 68 = .ok (.getfield 244, 3) := by decide +kernel
theorem dX10_ran_71 : decode cX10_ran 71 = .ok (.ireturn, 1) := by decide +kernel
theorem dX10_ran_72 : decode cX10_ran 72 = .ok (.aload_n 0, 1) := by decide +kernel
theorem dX10_ran_73 : decode cX10_ran 73 = .ok (.getfield 72, 3) := by decide +kernel
theorem dX10_ran_76 : decode cX10_ran 76 = .ok (.getfield 272, 3) := by decide +kernel
theorem dX10_ran_79 : decode cX10_ran 79 = .ok (.ireturn, 1) := by decide +kernel
theorem dX10_ran_80 : decode cX10_ran 80 = .ok (.aload_n 0, 1) := by decide +kernel
theorem dX10_ran_81 : decode cX10_ran 81 = .ok (.getfield 72, 3) := by decide +kernel
theorem dX10_ran_84 : decode cX10_ran 84 = .ok (.getfield 247, 3) := by decide +kernel
theorem dX10_ran_87 : decode cX10_ran 87 = .ok (.ireturn, 1) := by decide +kernel
theorem dX10_ran_88 : decode cX10_ran 88 = .ok (.aload_n 0, 1) := by decide +kernel
theorem dX10_ran_89 : decode cX10_ran 89 = .ok (.getfield 72, 3) := by decide +kernel
theorem dX10_ran_92 : decode cX10_ran 92 = .ok (.getfield 275, 3) := by decide +kernel
theorem dX10_ran_95 : decode cX10_ran 95 = .ok (.ireturn, 1) := by decide +kernel
theorem dX10_ran_96 : decode cX10_ran 96 = .ok (.aload_n 0, 1) := by decide +kernel
theorem dX10_ran_97 : decode cX10_ran 97 = .ok (.getfield 72, 3) := by decide +kernel
theorem dX10_ran_100 : decode cX10_ran 100 = .ok (.getfield 278, 3) := by decide +kernel
theorem dX10_ran_103 : decode cX10_ran 103 = .ok (.ireturn, 1) := by decide +kernel
theorem dX10_ran_104 : decode cX10_ran 104 = .ok (.aload_n 0, 1) := by decide +kernel
theorem dX10_ran_105 : decode cX10_ran 105 = .ok (.getfield 72, 3) := by decide +kernel
theorem dX10_ran_108 : decode cX10_ran 108 = .ok (.getfield 247, 3) := by decide +kernel
theorem dX10_ran_111 : decode cX10_ran 111 = .ok (.ifCond .ne 8, 3) := by decide +kernel
theorem dX10_ran_114 : decode cX10_ran 114 = .ok (.bipush (-4), 2) := by decide +kernel
theorem dX10_ran_116 : decode cX10_ran 116 = .ok (.goto 10, 3) := by decide +kernel
theorem dX10_ran_119 : decode cX10_ran 119 = .ok (.aload_n 0, 1) := by decide +kernel
theorem dX10_ran_120 : decode cX10_ran 120 = .ok (.getfield 72, 3) := by decide +kernel
theorem dX10_ran_123 : decode cX10_ran 123 = .ok (.invokevirtual 253, 3) := by decide +kernel
theorem dX10_ran_126 : decode cX10_ran 126 = .ok (.ireturn, 1) := by decide +kernel
theorem dX10_ran_127 : decode cX10_ran 127 = .ok (.aload_n 0, 1) := by decide +kernel
theorem dX10_ran_128 : decode cX10_ran 128 = .ok (.invokevirtual 281, 3) := by decide +kernel
theorem dX10_ran_131 : decode cX10_ran 131 = .ok (.ifCond .eq 7, 3) := by decide +kernel
theorem dX10_ran_134 : decode cX10_ran 134 = .ok (.iconst 1, 1) := by decide +kernel
theorem dX10_ran_135 : decode cX10_ran 135 = .ok (.goto 4, 3) := by decide +kernel
theorem dX10_ran_138 : decode cX10_ran 138 = .ok (.iconst 0, 1) := by decide +kernel
theorem dX10_ran_139 : decode cX10_ran 139 = .ok (.ireturn, 1) := by decide +kernel
theorem dX10_sheet_0 : decode cX10_sheet 0 = .ok (.iload_n 1, 1) := by decide +kernel
theorem dX10_sheet_1 : decode cX10_sheet 1 = .ok (.invokestatic 285, 3) := by decide +kernel
theorem dX10_sheet_4 : decode cX10_sheet 4 = .ok (.ifCond .eq 16, 3) := by decide +kernel
theorem dX10_sheet_7 : decode cX10_sheet 7 = .ok (.iload_n 2, 1) := by decide +kernel
theorem dX10_sheet_8 : decode cX10_sheet 8 = .ok (.invokestatic 288, 3) := by decide +kernel
theorem dX10_sheet_11 : decode cX10_sheet 11 = .ok (.ifCond .eq 9, 3) := by decide +kernel
theorem dX10_sheet_14 : decode cX10_sheet 14 = .ok (.iload_n 3, 1) := by decide +kernel
theorem dX10_sheet_15 : decode cX10_sheet 15 = .ok (.bipush 60, 2) := by decide +kernel
theorem dX10_sheet_17 : decode cX10_sheet 17 = .ok (.if_icmp .le 5, 3) := by decide +kernel
theorem dX10_sheet_20 : decode cX10_sheet 20 = .ok (.iconst (-1), 1) := by decide +kernel
theorem dX10_sheet_21 : decode cX10_sheet 21 = .ok (.ireturn, 1) := by decide +kernel
theorem dX10_sheet_22 : decode cX10_sheet 22 = .ok (.iload_n 3, 1) := by decide +kernel
theorem dX10_sheet_23 : decode cX10_sheet 23 = .ok (.ifCond .ge 6, 3) := by decide +kernel
theorem dX10_sheet_26 : decode cX10_sheet 26 = .ok (.bipush (-14), 2) := by decide +kernel
theorem dX10_sheet_28 : decode cX10_sheet 28 = .ok (.ireturn, 1) := by decide +kernel
theorem dX10_sheet_29 : decode cX10_sheet 29 = .ok (.aload_n 0, 1) := by decide +kernel
theorem dX10_sheet_30 : decode cX10_sheet 30 = .ok (.getfield 78, 3) := by decide +kernel
theorem dX10_sheet_33 : decode cX10_sheet 33 = .ok (.iload_n 1, 1) := by decide +kernel
theorem dX10_sheet_34 : decode cX10_sheet 34 = .ok (.aaload, 1) := by decide +kernel
theorem dX10_sheet_35 : decode cX10_sheet 35 = .ok (.iload_n 2, 1) := by decide +kernel
theorem dX10_sheet_36 : decode cX10_sheet 36 = .ok (.iload_n 3, 1) := by decide +kernel
theorem dX10_sheet_37 : decode cX10_sheet 37 = .ok (.invokevirtual 291, 3) := by decide +kernel
theorem dX10_sheet_40 : decode cX10_sheet 40 = .ok (.iconst 1, 1) := by decide +kernel
theorem dX10_sheet_41 : decode cX10_sheet 41 = .ok (.ireturn, 1) := by decide +kernel
theorem dX10_lay_0 : decode cX10_lay 0 = .ok (.iload_n 1, 1) := by decide +kernel
theorem dX10_lay_1 : decode cX10_lay 1 = .ok (.invokestatic 285, 3) := by decide +kernel
theorem dX10_lay_4 : decode cX10_lay 4 = .ok (.ifCond .ne 5, 3) := by decide +kernel
theorem dX10_lay_7 : decode cX10_lay 7 = .ok (.iconst (-1), 1) := by decide +kernel
theorem dX10_lay_8 : decode cX10_lay 8 = .ok (.ireturn, 1) := by decide +kernel
theorem dX10_lay_9 : decode cX10_lay 9 = .ok (.aload_n 0, 1) := by decide +kernel
theorem dX10_lay_10 : decode cX10_lay 10 = .ok (.getfield 78, 3) := by decide +kernel
theorem dX10_lay_13 : decode cX10_lay 13 = .ok (.iload_n 1, 1) := by decide +kernel
theorem dX10_lay_14 : decode cX10_lay 14 = .ok (.aaload, 1) := by decide +kernel
theorem dX10_lay_15 : decode cX10_lay 15 = .ok (.astore 4, 2) := by decide +kernel
theorem dX10_lay_17 : decode cX10_lay 17 = .ok (.aload 4, 2) := by decide +kernel
theorem dX10_lay_19 : decode cX10_lay 19 = .ok (.invokevirtual 294, 3) := by decide +kernel
theorem dX10_lay_22 : decode cX10_lay 22 = .ok (.ifCond .eq 6, 3) := by decide +kernel
theorem dX10_lay_25 : decode cX10_lay 25 = .ok (.bipush (-11), 2) := by decide +kernel
theorem dX10_lay_27 : decode cX10_lay 27 = .ok (.ireturn, 1) := by decide +kernel
theorem dX10_lay_28 : decode cX10_lay 28 = .ok (.iload_n 2, 1) := by decide +kernel
theorem dX10_lay_29 : decode cX10_lay 29 = .ok (.iconst 0, 1) := by decide +kernel
theorem dX10_lay_30 : decode cX10_lay 30 = .ok (.aload 4, 2) := by decide +kernel
theorem dX10_lay_32 : decode cX10_lay 32 = .ok (.getfield 297, 3) := by decide +kernel
theorem dX10_lay_35 : decode cX10_lay 35 = .ok (.iconst 1, 1) := by decide +kernel
theorem dX10_lay_36 : decode cX10_lay 36 = .ok (.isub, 1) := by decide +kernel
theorem dX10_lay_37 : decode cX10_lay 37 = .ok (.invokestatic 83, 3) := by decide +kernel
theorem dX10_lay_40 : decode cX10_lay 40 = .ok (.ifCond .ne 6, 3) := by decide +kernel
theorem dX10_lay_43 : decode cX10_lay 43 = .ok (.bipush (-12), 2) := by decide +kernel
theorem dX10_lay_45 : decode cX10_lay 45 = .ok (.ireturn, 1) := by decide +kernel
theorem dX10_lay_46 : decode cX10_lay 46 = .ok (.aload 4, 2) := by decide +kernel
theorem dX10_lay_48 : decode cX10_lay 48 = .ok (.iload_n 2, 1) := by decide +kernel
theorem dX10_lay_49 : decode cX10_lay 49 = .ok (.iload_n 3, 1) := by decide +kernel
theorem dX10_lay_50 : decode cX10_lay 50 = .ok (.invokevirtual 300, 3) := by decide +kernel
theorem dX10_lay_53 : decode cX10_lay 53 = .ok (.iconst 1, 1) := by decide +kernel
theorem dX10_lay_54 : decode cX10_lay 54 = .ok (.ireturn, 1) := by decide +kernel
theorem dX10_scan_0 : decode cX10_scan 0 = .ok (.iload_n 1, 1) := by decide +kernel
theorem dX10_scan_1 : decode cX10_scan 1 = .ok (.invokestatic 285, 3) := by decide +kernel
theorem dX10_scan_4 : decode cX10_scan 4 = .ok (.ifCond .eq 21, 3) := by decide +kernel
theorem dX10_scan_7 : decode cX10_scan 7 = .ok (.iload_n 2, 1) := by decide +kernel
theorem dX10_scan_8 : decode cX10_scan 8 = .ok (.invokestatic 288, 3) := by decide +kernel
theorem dX10_scan_11 : decode cX10_scan 11 = .ok (.ifCond .eq 14, 3) := by decide +kernel
theorem dX10_scan_14 : decode cX10_scan 14 = .ok (.iload 4, 2) := by decide +kernel
theorem dX10_scan_16 : decode cX10_scan 16 = .ok (.iconst 0, 1) := by decide +kernel
theorem dX10_scan_17 : decode cX10_scan 17 = .ok (.bipush 20, 2) := by decide +kernel
theorem dX10_scan_19 : decode cX10_scan 19 = .ok (.invokestatic 83, 3) := by decide +kernel
theorem dX10_scan_22 : decode cX10_scan 22 = .ok (.ifCond .ne 5, 3) := by decide +kernel
theorem dX10_scan_25 : decode cX10_scan 25 = .ok (.iconst (-1), 1) := by decide +kernel
theorem dX10_scan_26 : decode cX10_scan 26 = .ok (.ireturn, 1) := by decide +kernel
theorem dX10_scan_27 : decode cX10_scan 27 = .ok (.aload_n 0, 1) := by decide +kernel
theorem dX10_scan_28 : decode cX10_scan 28 = .ok (.getfield 78, 3) := by decide +kernel
theorem dX10_scan_31 : decode cX10_scan 31 = .ok (.iload_n 1, 1) := by decide +kernel
theorem dX10_scan_32 : decode cX10_scan 32 = .ok (.aaload, 1) := by decide +kernel
theorem dX10_scan_33 : decode cX10_scan 33 = .ok (.astore 5, 2) := by decide +kernel
theorem dX10_scan_35 : decode cX10_scan 35 = .ok (.aload 5, 2) := by decide +kernel
theorem dX10_scan_37 : decode cX10_scan 37 = .ok (.invokevirtual 294, 3) := by decide +kernel
theorem dX10_scan_40 : decode cX10_scan 40 = .ok (.ifCond .eq 6, 3) := by decide +kernel
theorem dX10_scan_43 : decode cX10_scan 43 = .ok (.bipush (-11), 2) := by decide +kernel
theorem dX10_scan_45 : decode cX10_scan 45 = .ok (.ireturn, 1) := by decide +kernel
theorem dX10_scan_46 : decode cX10_scan 46 = .ok (.aload 5, 2) := by decide +kernel
theorem dX10_scan_48 : decode cX10_scan 48 = .ok (.getfield 303, 3) := by decide +kernel
theorem dX10_scan_51 : decode cX10_scan 51 = .ok (.iload_n 2, 1) := by decide +kernel
theorem dX10_scan_52 : decode cX10_scan 52 = .ok (.if_icmp .eq 6, 3) := by decide +kernel
theorem dX10_scan_55 : decode cX10_scan 55 = .ok (.bipush (-13), 2) := by decide +kernel
theorem dX10_scan_57 : decode cX10_scan 57 = .ok (.ireturn, 1) := by decide +kernel
theorem dX10_scan_58 : decode cX10_scan 58 = .ok (.aload_n 0, 1) := by decide +kernel
theorem dX10_scan_59 : decode cX10_scan 59 = .ok (.getfield 35, 3) := by decide +kernel
theorem dX10_scan_62 : decode cX10_scan 62 = .ok (.invokevirtual 91, 3) := by decide +kernel
theorem dX10_scan_65 : decode cX10_scan 65 = .ok (.iconst 0, 1) := by decide +kernel
theorem dX10_scan_66 : decode cX10_scan 66 = .ok (.istore 6, 2) := by decide +kernel
theorem dX10_scan_68 : decode cX10_scan 68 = .ok (.iload 6, 2) := by decide +kernel
theorem dX10_scan_70 : decode cX10_scan 70 = .ok (.iload 4, 2) := by decide +kernel
theorem dX10_scan_72 : decode cX10_scan 72 = .ok (.if_icmp .ge 37, 3) := by decide +kernel
theorem dX10_scan_75 : decode cX10_scan 75 = .ok (.aload_n 0, 1) := by decide +kernel
theorem dX10_scan_76 : decode cX10_scan 76 = .ok (.aload 5, 2) := by decide +kernel
theorem dX10_scan_78 : decode cX10_scan 78 = .ok (.iload_n 3, 1) := by decide +kernel
theorem dX10_scan_79 : decode cX10_scan 79 = .ok (.iload 6, 2) := by decide +kernel
theorem dX10_scan_81 : decode cX10_scan 81 = .ok (.invokevirtual 306, 3) := by decide +kernel
theorem dX10_scan_84 : decode cX10_scan 84 = .ok (.istore 7, 2) := by decide +kernel
theorem dX10_scan_86 : decode cX10_scan 86 = .ok (.iload 7, 2) := by decide +kernel
theorem dX10_scan_88 : decode cX10_scan 88 = .ok (.ifCond .eq 15, 3) := by decide +kernel
theorem dX10_scan_91 : decode cX10_scan 91 = .ok (.aload_n 0, 1) := by decide +kernel
theorem dX10_scan_92 : decode cX10_scan 92 = .ok (.aload 5, 2) := by decide +kernel
theorem dX10_scan_94 : decode cX10_scan 94 = .ok (.iload_n 3, 1) := by decide +kernel
theorem dX10_scan_95 : decode cX10_scan 95 = .ok (.iload 6, 2) := by decide +kernel
theorem dX10_scan_97 : decode cX10_scan 97 = .ok (.invokevirtual 310, 3) := by decide +kernel
theorem dX10_scan_100 : decode cX10_scan 100 = .ok (.iload 7, 2) := by decide +kernel
theorem dX10_scan_102 : decode cX10_scan 102 = .ok (.ireturn, 1) := by decide +kernel
theorem dX10_scan_103 : decode cX10_scan 103 = .ok (.iinc 6 1, 3) := by decide +kernel
theorem dX10_scan_106 : decode cX10_scan 106 = .ok (.goto (-38), 3) := by decide +kernel
theorem dX10_scan_109 : decode cX10_scan 109 = .ok (.aload_n 0, 1) := by decide +kernel
theorem dX10_scan_110 : decode cX10_scan 110 = .ok (.getfield 26, 3) := by decide +kernel
theorem dX10_scan_113 : decode cX10_scan 113 = .ok (.getfield 120, 3) := by decide +kernel
theorem dX10_scan_116 : decode cX10_scan 116 = .ok (.ireturn, 1) := by decide +kernel
theorem dX10_count_0 : decode cX10_count 0 = .ok (.iload_n 1, 1) := by decide +kernel
theorem dX10_count_1 : decode cX10_count 1 = .ok (.tableswitch 113 0 5 #[39, 47, 55, 63, 71, 86], 39) := by decide +kernel
theorem dX10_count_40 : decode cX10_count 40 = .ok (.aload_n 0, 1) := by decide +kernel
theorem dX10_count_41 : decode cX10_count 41 = .ok (.getfield 10, 3) := by decide +kernel
theorem dX10_count_44 : decode cX10_count 44 = .ok (.getfield 87, 3) := by decide +kernel
theorem dX10_count_47 : decode cX10_count 47 = .ok (.ireturn, 1) := by decide +kernel
theorem dX10_count_48 : decode cX10_count 48 = .ok (.aload_n 0, 1) := by decide +kernel
theorem dX10_count_49 : decode cX10_count 49 = .ok (.getfield 26, 3) := by decide +kernel
theorem dX10_count_52 : decode cX10_count 52 = .ok (.getfield 120, 3) := by decide +kernel
theorem dX10_count_55 : decode cX10_count 55 = .ok (.ireturn, 1) := by decide +kernel
theorem dX10_count_56 : decode cX10_count 56 = .ok (.aload_n 0, 1) := by decide +kernel
theorem dX10_count_57 : decode cX10_count 57 = .ok (.getfield 51, 3) := by decide +kernel
theorem dX10_count_60 : decode cX10_count 60 = .ok (.getfield 199, 3) := by decide +kernel
theorem dX10_count_63 : decode cX10_count 63 = .ok (.ireturn, 1) := by decide +kernel
theorem dX10_count_64 : decode cX10_count 64 = .ok (.aload_n 0, 1) := by decide +kernel
theorem dX10_count_65 : decode cX10_count 65 = .ok (.getfield 58, 3) := by decide +kernel
theorem dX10_count_68 : decode cX10_count 68 = .ok (.getfield 202, 3) := by decide +kernel
theorem dX10_count_71 : decode cX10_count 71 = .ok (.ireturn, 1) := by decide +kernel
theorem dX10_count_72 : decode cX10_count 72 = .ok (.aload_n 0, 1) := by decide +kernel
theorem dX10_count_73 : decode cX10_count 73 = .ok (.getfield 35, 3) := by decide +kernel
theorem dX10_count_76 : decode cX10_count 76 = .ok (.invokevirtual 153, 3) := by decide +kernel
theorem dX10_count_79 : decode cX10_count 79 = .ok (.aload_n 0, 1) := by decide +kernel
theorem dX10_count_80 : decode cX10_count 80 = .ok (.getfield 35, 3) := by decide +kernel
theorem dX10_count_83 : decode cX10_count 83 = .ok (.invokevirtual 314, 3) := by decide +kernel
theorem dX10_count_86 : decode cX10_count 86 = .ok (.ireturn, 1) := by decide +kernel
theorem dX10_count_87 : decode cX10_count 87 = .ok (.aload_n 0, 1) := by decide +kernel
theorem dX10_count_88 : decode cX10_count 88 = .ok (.getfield 78, 3) := by decide +kernel
theorem dX10_count_91 : decode cX10_count 91 = .ok (.iconst 0, 1) := by decide +kernel
theorem dX10_count_92 : decode cX10_count 92 = .ok (.aaload, 1) := by decide +kernel
theorem dX10_count_93 : decode cX10_count 93 = .ok (.invokevirtual 294, 3) := by decide +kernel
theorem dX10_count_96 : decode cX10_count 96 = .ok (.ifCond .eq 8, 3) := by decide +kernel
theorem dX10_count_99 : decode cX10_count 99 = .ok (.bipush (-4), 2) := by decide +kernel
theorem dX10_count_101 : decode cX10_count 101 = .ok (.goto 12, 3) := by decide +kernel
theorem dX10_count_104 : decode cX10_count 104 = .ok (.aload_n 0, 1) := by decide +kernel
theorem dX10_count_105 : decode cX10_count 105 = .ok (.getfield 78, 3) := by decide +kernel
theorem dX10_count_108 : decode cX10_count 108 = .ok (.iconst 0, 1) := by decide +kernel
theorem dX10_count_109 : decode cX10_count 109 = .ok (.aaload, 1) := by decide +kernel
theorem dX10_count_110 : decode cX10_count 110 = .ok (.getfield 297, 3) := by decide +kernel
theorem dX10_count_113 : decode cX10_count 113 = .ok (.ireturn, 1) := by decide +kernel
theorem dX10_count_114 : decode cX10_count 114 = .ok (.iconst (-1), 1) := by decide +kernel
theorem dX10_count_115 : decode cX10_count 115 = .ok (.ireturn, 1) := by decide +kernel
theorem dX10_isRoutine_0 : decode cX10_isRoutine 0 = .ok (.iload_n 1, 1) := by decide +kernel
theorem dX10_isRoutine_1 : decode cX10_isRoutine 1 = .ok (.iconst 0, 1) := by decide +kernel
theorem dX10_isRoutine_2 : decode cX10_isRoutine 2 = .ok (.aload_n 0, 1) := by decide +kernel
theorem dX10_isRoutine_3 : decode cX10_isRoutine 3 = .ok (.getfield 10, 3) := by decide +kernel
theorem dX10_isRoutine_6 : decode cX10_isRoutine 6 = .ok (.getfield 87, 3) := by decide +kernel
theorem dX10_isRoutine_9 : decode cX10_isRoutine 9 = .ok (.iconst 1, 1) := by decide +kernel
theorem dX10_isRoutine_10 : decode cX10_isRoutine 10 = .ok (.isub, 1) := by decide +kernel
theorem dX10_isRoutine_11 : decode cX10_isRoutine 11 = .ok (.invokestatic 83, 3) := by decide +kernel
theorem dX10_isRoutine_14 : decode cX10_isRoutine 14 = .ok (.ireturn, 1) := by decide +kernel
theorem dX10_isPointer_0 : decode cX10_isPointer 0 = .ok (.iload_n 0, 1) := by decide +kernel
theorem dX10_isPointer_1 : decode cX10_isPointer 1 = .ok (.iconst 0, 1) := by decide +kernel
theorem dX10_isPointer_2 : decode cX10_isPointer 2 = .ok (.bipush 7, 2) := by decide +kernel
theorem dX10_isPointer_4 : decode cX10_isPointer 4 = .ok (.invokestatic 83, 3) := by decide +kernel
theorem dX10_isPointer_7 : decode cX10_isPointer 7 = .ok (.ireturn, 1) := by decide +kernel
theorem dX10_isTask_0 : decode cX10_isTask 0 = .ok (.iload_n 1, 1) := by decide +kernel
theorem dX10_isTask_1 : decode cX10_isTask 1 = .ok (.iconst 0, 1) := by decide +kernel
theorem dX10_isTask_2 : decode cX10_isTask 2 = .ok (.aload_n 0, 1) := by decide +kernel
theorem dX10_isTask_3 : decode cX10_isTask 3 = .ok (.getfield 58, 3) := by decide +kernel
theorem dX10_isTask_6 : decode cX10_isTask 6 = .ok (.getfield 202, 3) := by decide +kernel
theorem dX10_isTask_9 : decode cX10_isTask 9 = .ok (.iconst 1, 1) := by decide +kernel
theorem dX10_isTask_10 : decode cX10_isTask 10 = .ok (.isub, 1) := by decide +kernel
theorem dX10_isTask_11 : decode cX10_isTask 11 = .ok (.invokestatic 83, 3) := by decide +kernel
theorem dX10_isTask_14 : decode cX10_isTask 14 = .ok (.ireturn, 1) := by decide +kernel
theorem dX10_isSheet_0 : decode cX10_isSheet 0 = .ok (.iload_n 0, 1) := by decide +kernel
theorem dX10_isSheet_1 : decode cX10_isSheet 1 = .ok (.iconst 0, 1) := by decide +kernel
theorem dX10_isSheet_2 : decode cX10_isSheet 2 = .ok (.iconst 3, 1) := by decide +kernel
theorem dX10_isSheet_3 : decode cX10_isSheet 3 = .ok (.invokestatic 83, 3) := by decide +kernel
theorem dX10_isSheet_6 : decode cX10_isSheet 6 = .ok (.ireturn, 1) := by decide +kernel
theorem dX10_isLane_0 : decode cX10_isLane 0 = .ok (.iload_n 0, 1) := by decide +kernel
theorem dX10_isLane_1 : decode cX10_isLane 1 = .ok (.iconst 0, 1) := by decide +kernel
theorem dX10_isLane_2 : decode cX10_isLane 2 = .ok (.iconst 2, 1) := by decide +kernel
theorem dX10_isLane_3 : decode cX10_isLane 3 = .ok (.invokestatic 83, 3) := by decide +kernel
theorem dX10_isLane_6 : decode cX10_isLane 6 = .ok (.ireturn, 1) := by decide +kernel
theorem dX10_within_0 : decode cX10_within 0 = .ok (.iload_n 0, 1) := by decide +kernel
theorem dX10_within_1 : decode cX10_within 1 = .ok (.iload_n 1, 1) := by decide +kernel
theorem dX10_within_2 : decode cX10_within 2 = .ok (.if_icmp .lt 12, 3) := by decide +kernel
theorem dX10_within_5 : decode cX10_within 5 = .ok (.iload_n 0, 1) := by decide +kernel
theorem dX10_within_6 : decode cX10_within 6 = .ok (.iload_n 2, 1) := by decide +kernel
theorem dX10_within_7 : decode cX10_within 7 = .ok (.if_icmp .gt 7, 3) := by decide +kernel
theorem dX10_within_10 : decode cX10_within 10 = .ok (.iconst 1, 1) := by decide +kernel
theorem dX10_within_11 : decode cX10_within 11 = .ok (.goto 4, 3) := by decide +kernel
theorem dX10_within_14 : decode cX10_within 14 = .ok (.iconst 0, 1) := by decide +kernel
theorem dX10_within_15 : decode cX10_within 15 = .ok (.ireturn, 1) := by decide +kernel
theorem dX10_holds_0 : decode cX10_holds 0 = .ok (.iload_n 0, 1) := by decide +kernel
theorem dX10_holds_1 : decode cX10_holds 1 = .ok (.iload_n 1, 1) := by decide +kernel
theorem dX10_holds_2 : decode cX10_holds 2 = .ok (.ishr, 1) := by decide +kernel
theorem dX10_holds_3 : decode cX10_holds 3 = .ok (.iconst 1, 1) := by decide +kernel
theorem dX10_holds_4 : decode cX10_holds 4 = .ok (.iand, 1) := by decide +kernel
theorem dX10_holds_5 : decode cX10_holds 5 = .ok (.ifCond .eq 7, 3) := by decide +kernel
theorem dX10_holds_8 : decode cX10_holds 8 = .ok (.iconst 1, 1) := by decide +kernel
theorem dX10_holds_9 : decode cX10_holds 9 = .ok (.goto 4, 3) := by decide +kernel
theorem dX10_holds_12 : decode cX10_holds 12 = .ok (.iconst 0, 1) := by decide +kernel
theorem dX10_holds_13 : decode cX10_holds 13 = .ok (.ireturn, 1) := by decide +kernel
theorem dX10_leastOf_0 : decode cX10_leastOf 0 = .ok (.iconst 0, 1) := by decide +kernel
theorem dX10_leastOf_1 : decode cX10_leastOf 1 = .ok (.istore_n 1, 1) := by decide +kernel
theorem dX10_leastOf_2 : decode cX10_leastOf 2 = .ok (.iload_n 1, 1) := by decide +kernel
theorem dX10_leastOf_3 : decode cX10_leastOf 3 = .ok (.bipush 20, 2) := by decide +kernel
theorem dX10_leastOf_5 : decode cX10_leastOf 5 = .ok (.if_icmp .ge 19, 3) := by decide +kernel
theorem dX10_leastOf_8 : decode cX10_leastOf 8 = .ok (.iload_n 0, 1) := by decide +kernel
theorem dX10_leastOf_9 : decode cX10_leastOf 9 = .ok (.iload_n 1, 1) := by decide +kernel
theorem dX10_leastOf_10 : decode cX10_leastOf 10 = .ok (.invokestatic 136, 3) := by decide +kernel
theorem dX10_leastOf_13 : decode cX10_leastOf 13 = .ok (.ifCond .eq 5, 3) := by decide +kernel
theorem dX10_leastOf_16 : decode cX10_leastOf 16 = .ok (.iload_n 1, 1) := by decide +kernel
theorem dX10_leastOf_17 : decode cX10_leastOf 17 = .ok (.ireturn, 1) := by decide +kernel
theorem dX10_leastOf_18 : decode cX10_leastOf 18 = .ok (.iinc 1 1, 3) := by decide +kernel
theorem dX10_leastOf_21 : decode cX10_leastOf 21 = .ok (.goto (-19), 3) := by decide +kernel
theorem dX10_leastOf_24 : decode cX10_leastOf 24 = .ok (.bipush (-4), 2) := by decide +kernel
theorem dX10_leastOf_26 : decode cX10_leastOf 26 = .ok (.ireturn, 1) := by decide +kernel
theorem dX10_plus_0 : decode cX10_plus 0 = .ok (.iload_n 0, 1) := by decide +kernel
theorem dX10_plus_1 : decode cX10_plus 1 = .ok (.bipush (-5), 2) := by decide +kernel
theorem dX10_plus_3 : decode cX10_plus 3 = .ok (.if_icmp .eq 9, 3) := by decide +kernel
theorem dX10_plus_6 : decode cX10_plus 6 = .ok (.iload_n 1, 1) := by decide +kernel
theorem dX10_plus_7 : decode cX10_plus 7 = .ok (.bipush (-5), 2) := by decide +kernel
theorem dX10_plus_9 : decode cX10_plus 9 = .ok (.if_icmp .ne 8, 3) := by decide +kernel
theorem dX10_plus_12 : decode cX10_plus 12 = .ok (.bipush (-5), 2) := by decide +kernel
theorem dX10_plus_14 : decode cX10_plus 14 = .ok (.goto 6, 3) := by decide +kernel
theorem dX10_plus_17 : decode cX10_plus 17 = .ok (.iload_n 0, 1) := by decide +kernel
theorem dX10_plus_18 : decode cX10_plus 18 = .ok (.iload_n 1, 1) := by decide +kernel
theorem dX10_plus_19 : decode cX10_plus 19 = .ok (.iadd, 1) := by decide +kernel
theorem dX10_plus_20 : decode cX10_plus 20 = .ok (.ireturn, 1) := by decide +kernel
theorem dX10_greater_0 : decode cX10_greater 0 = .ok (.iload_n 0, 1) := by decide +kernel
theorem dX10_greater_1 : decode cX10_greater 1 = .ok (.bipush (-5), 2) := by decide +kernel
theorem dX10_greater_3 : decode cX10_greater 3 = .ok (.if_icmp .eq 9, 3) := by decide +kernel
theorem dX10_greater_6 : decode cX10_greater 6 = .ok (.iload_n 1, 1) := by decide +kernel
theorem dX10_greater_7 : decode cX10_greater 7 = .ok (.bipush (-5), 2) := by decide +kernel
theorem dX10_greater_9 : decode cX10_greater 9 = .ok (.if_icmp .ne 6, 3) := by decide +kernel
theorem dX10_greater_12 : decode cX10_greater 12 = .ok (.bipush (-5), 2) := by decide +kernel
theorem dX10_greater_14 : decode cX10_greater 14 = .ok (.ireturn, 1) := by decide +kernel
theorem dX10_greater_15 : decode cX10_greater 15 = .ok (.iload_n 0, 1) := by decide +kernel
theorem dX10_greater_16 : decode cX10_greater 16 = .ok (.iload_n 1, 1) := by decide +kernel
theorem dX10_greater_17 : decode cX10_greater 17 = .ok (.if_icmp .le 7, 3) := by decide +kernel
theorem dX10_greater_20 : decode cX10_greater 20 = .ok (.iload_n 0, 1) := by decide +kernel
theorem dX10_greater_21 : decode cX10_greater 21 = .ok (.goto 4, 3) := by decide +kernel
theorem dX10_greater_24 : decode cX10_greater 24 = .ok (.iload_n 1, 1) := by decide +kernel
theorem dX10_greater_25 : decode cX10_greater 25 = .ok (.ireturn, 1) := by decide +kernel
theorem dX10_kindOf_0 : decode cX10_kindOf 0 = .ok (.iload_n 0, 1) := by decide +kernel
theorem dX10_kindOf_1 : decode cX10_kindOf 1 = .ok (.ifCond .eq 7, 3) := by decide +kernel
theorem dX10_kindOf_4 : decode cX10_kindOf 4 = .ok (.iconst 2, 1) := by decide +kernel
theorem dX10_kindOf_5 : decode cX10_kindOf 5 = .ok (.goto 4, 3) := by decide +kernel
theorem dX10_kindOf_8 : decode cX10_kindOf 8 = .ok (.iconst 0, 1) := by decide +kernel
theorem dX10_kindOf_9 : decode cX10_kindOf 9 = .ok (.iload_n 1, 1) := by decide +kernel
theorem dX10_kindOf_10 : decode cX10_kindOf 10 = .ok (.ifCond .eq 7, 3) := by decide +kernel
theorem dX10_kindOf_13 : decode cX10_kindOf 13 = .ok (.iconst 1, 1) := by decide +kernel
theorem dX10_kindOf_14 : decode cX10_kindOf 14 = .ok (.goto 4, 3) := by decide +kernel
theorem dX10_kindOf_17 : decode cX10_kindOf 17 = .ok (.iconst 0, 1) := by decide +kernel
theorem dX10_kindOf_18 : decode cX10_kindOf 18 = .ok (.iadd, 1) := by decide +kernel
theorem dX10_kindOf_19 : decode cX10_kindOf 19 = .ok (.ireturn, 1) := by decide +kernel
theorem dX10_canBeCall_0 : decode cX10_canBeCall 0 = .ok (.aload_n 0, 1) := by decide +kernel
theorem dX10_canBeCall_1 : decode cX10_canBeCall 1 = .ok (.iload_n 1, 1) := by decide +kernel
theorem dX10_canBeCall_2 : decode cX10_canBeCall 2 = .ok (.invokevirtual 98, 3) := by decide +kernel
theorem dX10_canBeCall_5 : decode cX10_canBeCall 5 = .ok (.ifCond .eq 12, 3) := by decide +kernel
theorem dX10_canBeCall_8 : decode cX10_canBeCall 8 = .ok (.iload_n 3, 1) := by decide +kernel
theorem dX10_canBeCall_9 : decode cX10_canBeCall 9 = .ok (.iconst 0, 1) := by decide +kernel
theorem dX10_canBeCall_10 : decode cX10_canBeCall 10 = .ok (.iconst 3, 1) := by decide +kernel
theorem dX10_canBeCall_11 : decode cX10_canBeCall 11 = .ok (.invokestatic 83, 3) := by decide +kernel
theorem dX10_canBeCall_14 : decode cX10_canBeCall 14 = .ok (.ifCond .ne 5, 3) := by decide +kernel
theorem dX10_canBeCall_17 : decode cX10_canBeCall 17 = .ok (.iconst 0, 1) := by decide +kernel
theorem dX10_canBeCall_18 : decode cX10_canBeCall 18 = .ok (.ireturn, 1) := by decide +kernel
theorem dX10_canBeCall_19 : decode cX10_canBeCall 19 = .ok (.iload_n 3, 1) := by decide +kernel
theorem dX10_canBeCall_20 : decode cX10_canBeCall 20 = .ok (.iconst 2, 1) := by decide +kernel
theorem dX10_canBeCall_21 : decode cX10_canBeCall 21 = .ok (.iand, 1) := by decide +kernel
theorem dX10_canBeCall_22 : decode cX10_canBeCall 22 = .ok (.ifCond .eq 10, 3) := by decide +kernel
theorem dX10_canBeCall_25 : decode cX10_canBeCall 25 = .ok (.iload_n 2, 1) := by decide +kernel
theorem dX10_canBeCall_26 : decode cX10_canBeCall 26 = .ok (.invokestatic 130, 3) := by decide +kernel
theorem dX10_canBeCall_29 : decode cX10_canBeCall 29 = .ok (.goto 8, 3) := by decide +kernel
theorem dX10_canBeCall_32 : decode cX10_canBeCall 32 = .ok (.aload_n 0, 1) := by decide +kernel
theorem dX10_canBeCall_33 : decode cX10_canBeCall 33 = .ok (.iload_n 2, 1) := by decide +kernel
theorem dX10_canBeCall_34 : decode cX10_canBeCall 34 = .ok (.invokevirtual 98, 3) := by decide +kernel
theorem dX10_canBeCall_37 : decode cX10_canBeCall 37 = .ok (.ireturn, 1) := by decide +kernel
theorem dX10_refusalOfCall_0 : decode cX10_refusalOfCall 0 = .ok (.aload_n 0, 1) := by decide +kernel
theorem dX10_refusalOfCall_1 : decode cX10_refusalOfCall 1 = .ok (.iload_n 1, 1) := by decide +kernel
theorem dX10_refusalOfCall_2 : decode cX10_refusalOfCall 2 = .ok (.iload_n 2, 1) := by decide +kernel
theorem dX10_refusalOfCall_3 : decode cX10_refusalOfCall 3 = .ok (.iload_n 3, 1) := by decide +kernel
theorem dX10_refusalOfCall_4 : decode cX10_refusalOfCall 4 = .ok (.invokevirtual 121, 3) := by decide +kernel
theorem dX10_refusalOfCall_7 : decode cX10_refusalOfCall 7 = .ok (.ifCond .ne 5, 3) := by decide +kernel
theorem dX10_refusalOfCall_10 : decode cX10_refusalOfCall 10 = .ok (.iconst (-1), 1) := by decide +kernel
theorem dX10_refusalOfCall_11 : decode cX10_refusalOfCall 11 = .ok (.ireturn, 1) := by decide +kernel
theorem dX10_refusalOfCall_12 : decode cX10_refusalOfCall 12 = .ok (.aload_n 0, 1) := by decide +kernel
theorem dX10_refusalOfCall_13 : decode cX10_refusalOfCall 13 = .ok (.getfield 26, 3) := by decide +kernel
theorem dX10_refusalOfCall_16 : decode cX10_refusalOfCall 16 = .ok (.iload_n 1, 1) := by decide +kernel
theorem dX10_refusalOfCall_17 : decode cX10_refusalOfCall 17 = .ok (.iload_n 2, 1) := by decide +kernel
theorem dX10_refusalOfCall_18 : decode cX10_refusalOfCall 18 = .ok (.iload_n 3, 1) := by decide +kernel
theorem dX10_refusalOfCall_19 : decode cX10_refusalOfCall 19 = .ok (.invokevirtual 124, 3) := by decide +kernel
theorem dX10_refusalOfCall_22 : decode cX10_refusalOfCall 22 = .ok (.ifCond .eq 6, 3) := by decide +kernel
theorem dX10_refusalOfCall_25 : decode cX10_refusalOfCall 25 = .ok (.bipush (-2), 2) := by decide +kernel
theorem dX10_refusalOfCall_27 : decode cX10_refusalOfCall 27 = .ok (.ireturn, 1) := by decide +kernel
theorem dX10_refusalOfCall_28 : decode cX10_refusalOfCall 28 = .ok (.aload_n 0, 1) := by decide +kernel
theorem dX10_refusalOfCall_29 : decode cX10_refusalOfCall 29 = .ok (.getfield 26, 3) := by decide +kernel
theorem dX10_refusalOfCall_32 : decode cX10_refusalOfCall 32 = .ok (.getfield 120, 3) := by decide +kernel
theorem dX10_refusalOfCall_35 : decode cX10_refusalOfCall 35 = .ok (.bipush 60, 2) := by decide +kernel
theorem dX10_refusalOfCall_37 : decode cX10_refusalOfCall 37 = .ok (.if_icmp .lt 8, 3) := by decide +kernel
theorem dX10_refusalOfCall_40 : decode cX10_refusalOfCall 40 = .ok (.bipush (-3), 2) := by decide +kernel
theorem dX10_refusalOfCall_42 : decode cX10_refusalOfCall 42 = .ok (.goto 4, 3) := by decide +kernel
theorem dX10_refusalOfCall_45 : decode cX10_refusalOfCall 45 = .ok (.iconst 0, 1) := by decide +kernel
theorem dX10_refusalOfCall_46 : decode cX10_refusalOfCall 46 = .ok (.ireturn, 1) := by decide +kernel
theorem dX10_addFromSheet_0 : decode cX10_addFromSheet 0 = .ok (.aload_n 1, 1) := by decide +kernel
theorem dX10_addFromSheet_1 : decode cX10_addFromSheet 1 = .ok (.iload_n 2, 1) := by decide +kernel
theorem dX10_addFromSheet_2 : decode cX10_addFromSheet 2 = .ok (.iload_n 3, 1) := by decide +kernel
theorem dX10_addFromSheet_3 : decode cX10_addFromSheet 3 = .ok (.invokevirtual 317, 3) := by decide +kernel
theorem dX10_addFromSheet_6 : decode cX10_addFromSheet 6 = .ok (.ifCond .ne 6, 3) := by decide +kernel
theorem dX10_addFromSheet_9 : decode cX10_addFromSheet 9 = .ok (.bipush (-12), 2) := by decide +kernel
theorem dX10_addFromSheet_11 : decode cX10_addFromSheet 11 = .ok (.ireturn, 1) := by decide +kernel
theorem dX10_addFromSheet_12 : decode cX10_addFromSheet 12 = .ok (.iload_n 2, 1) := by decide +kernel
theorem dX10_addFromSheet_13 : decode cX10_addFromSheet 13 = .ok (.iconst 3, 1) := by decide +kernel
theorem dX10_addFromSheet_14 : decode cX10_addFromSheet 14 = .ok (.iload_n 3, 1) := by decide +kernel
theorem dX10_addFromSheet_15 : decode cX10_addFromSheet 15 = .ok (.imul, 1) := by decide +kernel
theorem dX10_addFromSheet_16 : decode cX10_addFromSheet 16 = .ok (.iadd, 1) := by decide +kernel
theorem dX10_addFromSheet_17 : decode cX10_addFromSheet 17 = .ok (.istore 4, 2) := by decide +kernel
theorem dX10_addFromSheet_19 : decode cX10_addFromSheet 19 = .ok (.aload_n 1, 1) := by decide +kernel
theorem dX10_addFromSheet_20 : decode cX10_addFromSheet 20 = .ok (.getfield 320, 3) := by decide +kernel
theorem dX10_addFromSheet_23 : decode cX10_addFromSheet 23 = .ok (.iload 4, 2) := by decide +kernel
theorem dX10_addFromSheet_25 : decode cX10_addFromSheet 25 = .ok (.iaload, 1) := by decide +kernel
theorem dX10_addFromSheet_26 : decode cX10_addFromSheet 26 = .ok (.istore 5, 2) := by decide +kernel
theorem dX10_addFromSheet_28 : decode cX10_addFromSheet 28 = .ok (.aload_n 1, 1) := by decide +kernel
theorem dX10_addFromSheet_29 : decode cX10_addFromSheet 29 = .ok (.getfield 320, 3) := by decide +kernel
theorem dX10_addFromSheet_32 : decode cX10_addFromSheet 32 = .ok (.iload 4, 2) := by decide +kernel
theorem dX10_addFromSheet_34 : decode cX10_addFromSheet 34 = .ok (.iconst 1, 1) := by decide +kernel
theorem dX10_addFromSheet_35 : decode cX10_addFromSheet 35 = .ok (.iadd, 1) := by decide +kernel
theorem dX10_addFromSheet_36 : decode cX10_addFromSheet 36 = .ok (.iaload, 1) := by decide +kernel
theorem dX10_addFromSheet_37 : decode cX10_addFromSheet 37 = .ok (.istore 6, 2) := by decide +kernel
theorem dX10_addFromSheet_39 : decode cX10_addFromSheet 39 = .ok (.aload_n 1, 1) := by decide +kernel
theorem dX10_addFromSheet_40 : decode cX10_addFromSheet 40 = .ok (.getfield 320, 3) := by decide +kernel
theorem dX10_addFromSheet_43 : decode cX10_addFromSheet 43 = .ok (.iload 4, 2) := by decide +kernel
theorem dX10_addFromSheet_45 : decode cX10_addFromSheet 45 = .ok (.iconst 2, 1) := by decide +kernel
theorem dX10_addFromSheet_46 : decode cX10_addFromSheet 46 = .ok (.iadd, 1) := by decide +kernel
theorem dX10_addFromSheet_47 : decode cX10_addFromSheet 47 = .ok (.iaload, 1) := by decide +kernel
theorem dX10_addFromSheet_48 : decode cX10_addFromSheet 48 = .ok (.istore 7, 2) := by decide +kernel
theorem dX10_addFromSheet_50 : decode cX10_addFromSheet 50 = .ok (.aload_n 0, 1) := by decide +kernel
theorem dX10_addFromSheet_51 : decode cX10_addFromSheet 51 = .ok (.iload 5, 2) := by decide +kernel
theorem dX10_addFromSheet_53 : decode cX10_addFromSheet 53 = .ok (.iload 6, 2) := by decide +kernel
theorem dX10_addFromSheet_55 : decode cX10_addFromSheet 55 = .ok (.iload 7, 2) := by decide +kernel
theorem dX10_addFromSheet_57 : decode cX10_addFromSheet 57 = .ok (.invokevirtual 113, 3) := by decide +kernel
theorem dX10_addFromSheet_60 : decode cX10_addFromSheet 60 = .ok (.istore 8, 2) := by decide +kernel
theorem dX10_addFromSheet_62 : decode cX10_addFromSheet 62 = .ok (.iload 8, 2) := by decide +kernel
theorem dX10_addFromSheet_64 : decode cX10_addFromSheet 64 = .ok (.ifCond .eq 9, 3) := by decide +kernel
theorem dX10_addFromSheet_67 : decode cX10_addFromSheet 67 = .ok (.bipush (-20), 2) := by decide +kernel
theorem dX10_addFromSheet_69 : decode cX10_addFromSheet 69 = .ok (.iload 8, 2) := by decide +kernel
theorem dX10_addFromSheet_71 : decode cX10_addFromSheet 71 = .ok (.iadd, 1) := by decide +kernel
theorem dX10_addFromSheet_72 : decode cX10_addFromSheet 72 = .ok (.ireturn, 1) := by decide +kernel
theorem dX10_addFromSheet_73 : decode cX10_addFromSheet 73 = .ok (.aload_n 0, 1) := by decide +kernel
theorem dX10_addFromSheet_74 : decode cX10_addFromSheet 74 = .ok (.getfield 26, 3) := by decide +kernel
theorem dX10_addFromSheet_77 : decode cX10_addFromSheet 77 = .ok (.iload 5, 2) := by decide +kernel
theorem dX10_addFromSheet_79 : decode cX10_addFromSheet 79 = .ok (.iload 6, 2) := by decide +kernel
theorem dX10_addFromSheet_81 : decode cX10_addFromSheet 81 = .ok (.iload 7, 2) := by decide +kernel
theorem dX10_addFromSheet_83 : decode cX10_addFromSheet 83 = .ok (.invokevirtual 117, 3) := by decide +kernel
theorem dX10_addFromSheet_86 : decode cX10_addFromSheet 86 = .ok (.iconst 0, 1) := by decide +kernel
theorem dX10_addFromSheet_87 : decode cX10_addFromSheet 87 = .ok (.ireturn, 1) := by decide +kernel
theorem dX10_removeFromSheet_0 : decode cX10_removeFromSheet 0 = .ok (.iconst 0, 1) := by decide +kernel
theorem dX10_removeFromSheet_1 : decode cX10_removeFromSheet 1 = .ok (.istore 4, 2) := by decide +kernel
theorem dX10_removeFromSheet_3 : decode cX10_removeFromSheet 3 = .ok (.iload 4, 2) := by decide +kernel
theorem dX10_removeFromSheet_5 : decode cX10_removeFromSheet 5 = .ok (.iload_n 3, 1) := by decide +kernel
theorem dX10_removeFromSheet_6 : decode cX10_removeFromSheet 6 = .ok (.if_icmp .ge 49, 3) := by decide +kernel
theorem dX10_removeFromSheet_9 : decode cX10_removeFromSheet 9 = .ok (.iload_n 2, 1) := by decide +kernel
theorem dX10_removeFromSheet_10 : decode cX10_removeFromSheet 10 = .ok (.iconst 3, 1) := by decide +kernel
theorem dX10_removeFromSheet_11 : decode cX10_removeFromSheet 11 = .ok (.iload 4, 2) := by decide +kernel
theorem dX10_removeFromSheet_13 : decode cX10_removeFromSheet 13 = .ok (.imul, 1) := by decide +kernel
theorem dX10_removeFromSheet_14 : decode cX10_removeFromSheet 14 = .ok (.iadd, 1) := by decide +kernel
theorem dX10_removeFromSheet_15 : decode cX10_removeFromSheet 15 = .ok (.istore 5, 2) := by decide +kernel
theorem dX10_removeFromSheet_17 : decode cX10_removeFromSheet 17 = .ok (.aload_n 0, 1) := by decide +kernel
theorem dX10_removeFromSheet_18 : decode cX10_removeFromSheet 18 = .ok (.getfield 26, 3) := by decide +kernel
theorem dX10_removeFromSheet_21 : decode cX10_removeFromSheet 21 = .ok (.aload_n 1, 1) := by decide +kernel
theorem dX10_removeFromSheet_22 : decode cX10_removeFromSheet 22 = .ok (.getfield 320, 3) := by decide +kernel
theorem dX10_removeFromSheet_25 : decode cX10_removeFromSheet 25 = .ok (.iload 5, 2) := by decide +kernel
theorem dX10_removeFromSheet_27 : decode cX10_removeFromSheet 27 = .ok (.iaload, 1) := by decide +kernel
theorem dX10_removeFromSheet_28 : decode cX10_removeFromSheet 28 = .ok (.aload_n 1, 1) := by decide +kernel
theorem dX10_removeFromSheet_29 : decode cX10_removeFromSheet 29 = .ok (.getfield 320, 3) := by decide +kernel
theorem dX10_removeFromSheet_32 : decode cX10_removeFromSheet 32 = .ok (.iload 5, 2) := by decide +kernel
theorem dX10_removeFromSheet_34 : decode cX10_removeFromSheet 34 = .ok (.iconst 1, 1) := by decide +kernel
theorem dX10_removeFromSheet_35 : decode cX10_removeFromSheet 35 = .ok (.iadd, 1) := by decide +kernel
theorem dX10_removeFromSheet_36 : decode cX10_removeFromSheet 36 = .ok (.iaload, 1) := by decide +kernel
theorem dX10_removeFromSheet_37 : decode cX10_removeFromSheet 37 = .ok (.aload_n 1, 1) := by decide +kernel
theorem dX10_removeFromSheet_38 : decode cX10_removeFromSheet 38 = .ok (.getfield 320, 3) := by decide +kernel
theorem dX10_removeFromSheet_41 : decode cX10_removeFromSheet 41 = .ok (.iload 5, 2) := by decide +kernel
theorem dX10_removeFromSheet_43 : decode cX10_removeFromSheet 43 = .ok (.iconst 2, 1) := by decide +kernel
theorem dX10_removeFromSheet_44 : decode cX10_removeFromSheet 44 = .ok (.iadd, 1) := by decide +kernel
theorem dX10_removeFromSheet_45 : decode cX10_removeFromSheet 45 = .ok (.iaload, 1) := by decide +kernel
theorem dX10_removeFromSheet_46 : decode cX10_removeFromSheet 46 = .ok (.invokevirtual 127, 3) := by decide +kernel
theorem dX10_removeFromSheet_49 : decode cX10_removeFromSheet 49 = .ok (.iinc 4 1, 3) := by decide +kernel
theorem dX10_removeFromSheet_52 : decode cX10_removeFromSheet 52 = .ok (.goto (-49), 3) := by decide +kernel
theorem dX10_removeFromSheet_55 : decode cX10_removeFromSheet 55 = .ok (.return_, 1) := by decide +kernel
theorem dX10_totalAsMeasured_0 : decode cX10_totalAsMeasured 0 = .ok (.aload_n 0, 1) := by decide +kernel
theorem dX10_totalAsMeasured_1 : decode cX10_totalAsMeasured 1 = .ok (.getfield 44, 3) := by decide +kernel
theorem dX10_totalAsMeasured_4 : decode cX10_totalAsMeasured 4 = .ok (.getfield 180, 3) := by decide +kernel
theorem dX10_totalAsMeasured_7 : decode cX10_totalAsMeasured 7 = .ok (.aload_n 0, 1) := by decide +kernel
theorem dX10_totalAsMeasured_8 : decode cX10_totalAsMeasured 8 = .ok (.getfield 58, 3) := by decide +kernel
theorem dX10_totalAsMeasured_11 : decode cX10_totalAsMeasured 11 = .ok (.getfield 207, 3) := by decide +kernel
theorem dX10_totalAsMeasured_14 : decode cX10_totalAsMeasured 14 = .ok (.iload_n 1, 1) := by decide +kernel
theorem dX10_totalAsMeasured_15 : decode cX10_totalAsMeasured 15 = .ok (.iaload, 1) := by decide +kernel
theorem dX10_totalAsMeasured_16 : decode cX10_totalAsMeasured 16 = .ok (.iaload, 1) := by decide +kernel
theorem dX10_totalAsMeasured_17 : decode cX10_totalAsMeasured 17 = .ok (.aload_n 0, 1) := by decide +kernel
theorem dX10_totalAsMeasured_18 : decode cX10_totalAsMeasured 18 = .ok (.getfield 51, 3) := by decide +kernel
theorem dX10_totalAsMeasured_21 : decode cX10_totalAsMeasured 21 = .ok (.aload_n 0, 1) := by decide +kernel
theorem dX10_totalAsMeasured_22 : decode cX10_totalAsMeasured 22 = .ok (.getfield 58, 3) := by decide +kernel
theorem dX10_totalAsMeasured_25 : decode cX10_totalAsMeasured 25 = .ok (.getfield 209, 3) := by decide +kernel
theorem dX10_totalAsMeasured_28 : decode cX10_totalAsMeasured 28 = .ok (.iload_n 1, 1) := by decide +kernel
theorem dX10_totalAsMeasured_29 : decode cX10_totalAsMeasured 29 = .ok (.iaload, 1) := by decide +kernel
theorem dX10_totalAsMeasured_30 : decode cX10_totalAsMeasured 30 = .ok (.aload_n 0, 1) := by decide +kernel
theorem dX10_totalAsMeasured_31 : decode cX10_totalAsMeasured 31 = .ok (.getfield 44, 3) := by decide +kernel
theorem dX10_totalAsMeasured_34 : decode cX10_totalAsMeasured 34 = .ok (.getfield 180, 3) := by decide +kernel
theorem dX10_totalAsMeasured_37 : decode cX10_totalAsMeasured 37 = .ok (.invokevirtual 212, 3) := by decide +kernel
theorem dX10_totalAsMeasured_40 : decode cX10_totalAsMeasured 40 = .ok (.invokestatic 323, 3) := by decide +kernel
theorem dX10_totalAsMeasured_43 : decode cX10_totalAsMeasured 43 = .ok (.ireturn, 1) := by decide +kernel
theorem dX10_roomAsMeasured_0 : decode cX10_roomAsMeasured 0 = .ok (.aload_n 0, 1) := by decide +kernel
theorem dX10_roomAsMeasured_1 : decode cX10_roomAsMeasured 1 = .ok (.iload_n 1, 1) := by decide +kernel
theorem dX10_roomAsMeasured_2 : decode cX10_roomAsMeasured 2 = .ok (.invokevirtual 216, 3) := by decide +kernel
theorem dX10_roomAsMeasured_5 : decode cX10_roomAsMeasured 5 = .ok (.aload_n 0, 1) := by decide +kernel
theorem dX10_roomAsMeasured_6 : decode cX10_roomAsMeasured 6 = .ok (.getfield 58, 3) := by decide +kernel
theorem dX10_roomAsMeasured_9 : decode cX10_roomAsMeasured 9 = .ok (.getfield 326, 3) := by decide +kernel
theorem dX10_roomAsMeasured_12 : decode cX10_roomAsMeasured 12 = .ok (.iload_n 1, 1) := by decide +kernel
theorem dX10_roomAsMeasured_13 : decode cX10_roomAsMeasured 13 = .ok (.iaload, 1) := by decide +kernel
theorem dX10_roomAsMeasured_14 : decode cX10_roomAsMeasured 14 = .ok (.invokestatic 323, 3) := by decide +kernel
theorem dX10_roomAsMeasured_17 : decode cX10_roomAsMeasured 17 = .ok (.ireturn, 1) := by decide +kernel
theorem dX10_totalWithout_0 : decode cX10_totalWithout 0 = .ok (.aload_n 0, 1) := by decide +kernel
theorem dX10_totalWithout_1 : decode cX10_totalWithout 1 = .ok (.getfield 44, 3) := by decide +kernel
theorem dX10_totalWithout_4 : decode cX10_totalWithout 4 = .ok (.iload_n 2, 1) := by decide +kernel
theorem dX10_totalWithout_5 : decode cX10_totalWithout 5 = .ok (.invokevirtual 176, 3) := by decide +kernel
theorem dX10_totalWithout_8 : decode cX10_totalWithout 8 = .ok (.aload_n 0, 1) := by decide +kernel
theorem dX10_totalWithout_9 : decode cX10_totalWithout 9 = .ok (.iload_n 1, 1) := by decide +kernel
theorem dX10_totalWithout_10 : decode cX10_totalWithout 10 = .ok (.invokevirtual 216, 3) := by decide +kernel
theorem dX10_totalWithout_13 : decode cX10_totalWithout 13 = .ok (.ireturn, 1) := by decide +kernel
theorem dX10_shareRooms_0 : decode cX10_shareRooms 0 = .ok (.aload_n 0, 1) := by decide +kernel
theorem dX10_shareRooms_1 : decode cX10_shareRooms 1 = .ok (.getfield 44, 3) := by decide +kernel
theorem dX10_shareRooms_4 : decode cX10_shareRooms 4 = .ok (.iconst (-1), 1) := by decide +kernel
theorem dX10_shareRooms_5 : decode cX10_shareRooms 5 = .ok (.invokevirtual 176, 3) := by decide +kernel
theorem dX10_shareRooms_8 : decode cX10_shareRooms 8 = .ok (.iconst 0, 1) := by decide +kernel
theorem dX10_shareRooms_9 : decode cX10_shareRooms 9 = .ok (.istore_n 1, 1) := by decide +kernel
theorem dX10_shareRooms_10 : decode cX10_shareRooms 10 = .ok (.iload_n 1, 1) := by decide +kernel
theorem dX10_shareRooms_11 : decode cX10_shareRooms 11 = .ok (.aload_n 0, 1) := by decide +kernel
theorem dX10_shareRooms_12 : decode cX10_shareRooms 12 = .ok (.getfield 58, 3) := by decide +kernel
theorem dX10_shareRooms_15 : decode cX10_shareRooms 15 = .ok (.getfield 202, 3) := by decide +kernel
theorem dX10_shareRooms_18 : decode cX10_shareRooms 18 = .ok (.if_icmp .ge 34, 3) := by decide +kernel
theorem dX10_shareRooms_21 : decode cX10_shareRooms 21 = .ok (.aload_n 0, 1) := by decide +kernel
theorem dX10_shareRooms_22 : decode cX10_shareRooms 22 = .ok (.iload_n 1, 1) := by decide +kernel
theorem dX10_shareRooms_23 : decode cX10_shareRooms 23 = .ok (.invokevirtual 219, 3) := by decide +kernel
theorem dX10_shareRooms_26 : decode cX10_shareRooms 26 = .ok (.istore_n 2, 1) := by decide +kernel
theorem dX10_shareRooms_27 : decode cX10_shareRooms 27 = .ok (.iload_n 2, 1) := by decide +kernel
theorem dX10_shareRooms_28 : decode cX10_shareRooms 28 = .ok (.bipush (-5), 2) := by decide +kernel
theorem dX10_shareRooms_30 : decode cX10_shareRooms 30 = .ok (.if_icmp .ne 6, 3) := by decide +kernel
theorem dX10_shareRooms_33 : decode cX10_shareRooms 33 = .ok (.bipush (-5), 2) := by decide +kernel
theorem dX10_shareRooms_35 : decode cX10_shareRooms 35 = .ok (.ireturn, 1) := by decide +kernel
theorem dX10_shareRooms_36 : decode cX10_shareRooms 36 = .ok (.aload_n 0, 1) := by decide +kernel
theorem dX10_shareRooms_37 : decode cX10_shareRooms 37 = .ok (.getfield 65, 3) := by decide +kernel
theorem dX10_shareRooms_40 : decode cX10_shareRooms 40 = .ok (.getfield 329, 3) := by decide +kernel
theorem dX10_shareRooms_43 : decode cX10_shareRooms 43 = .ok (.iload_n 1, 1) := by decide +kernel
theorem dX10_shareRooms_44 : decode cX10_shareRooms 44 = .ok (.iload_n 2, 1) := by decide +kernel
theorem dX10_shareRooms_45 : decode cX10_shareRooms 45 = .ok (.iastore, 1) := by decide +kernel
theorem dX10_shareRooms_46 : decode cX10_shareRooms 46 = .ok (.iinc 1 1, 3) := by decide +kernel
theorem dX10_shareRooms_49 : decode cX10_shareRooms 49 = .ok (.goto (-39), 3) := by decide +kernel
theorem dX10_shareRooms_52 : decode cX10_shareRooms 52 = .ok (.aload_n 0, 1) := by decide +kernel
theorem dX10_shareRooms_53 : decode cX10_shareRooms 53 = .ok (.getfield 65, 3) := by decide +kernel
theorem dX10_shareRooms_56 : decode cX10_shareRooms 56 = .ok (.aload_n 0, 1) := by decide +kernel
theorem dX10_shareRooms_57 : decode cX10_shareRooms 57 = .ok (.getfield 58, 3) := by decide +kernel
theorem dX10_shareRooms_60 : decode cX10_shareRooms 60 = .ok (.invokevirtual 332, 3) := by decide +kernel
theorem dX10_shareRooms_63 : decode cX10_shareRooms 63 = .ok (.ireturn, 1) := by decide +kernel
theorem dX10_pushMarked_0 : decode cX10_pushMarked 0 = .ok (.aload_n 0, 1) := by decide +kernel
theorem dX10_pushMarked_1 : decode cX10_pushMarked 1 = .ok (.getfield 10, 3) := by decide +kernel
theorem dX10_pushMarked_4 : decode cX10_pushMarked 4 = .ok (.getfield 106, 3) := by decide +kernel
theorem dX10_pushMarked_7 : decode cX10_pushMarked 7 = .ok (.iload_n 1, 1) := by decide +kernel
theorem dX10_pushMarked_8 : decode cX10_pushMarked 8 = .ok (.iaload, 1) := by decide +kernel
theorem dX10_pushMarked_9 : decode cX10_pushMarked 9 = .ok (.istore_n 2, 1) := by decide +kernel
theorem dX10_pushMarked_10 : decode cX10_pushMarked 10 = .ok (.iload_n 2, 1) := by decide +kernel
theorem dX10_pushMarked_11 : decode cX10_pushMarked 11 = .ok (.ifCond .eq 28, 3) := by decide +kernel
theorem dX10_pushMarked_14 : decode cX10_pushMarked 14 = .ok (.aload_n 0, 1) := by decide +kernel
theorem dX10_pushMarked_15 : decode cX10_pushMarked 15 = .ok (.getfield 72, 3) := by decide +kernel
theorem dX10_pushMarked_18 : decode cX10_pushMarked 18 = .ok (.iload_n 1, 1) := by decide +kernel
theorem dX10_pushMarked_19 : decode cX10_pushMarked 19 = .ok (.invokevirtual 336, 3) := by decide +kernel
theorem dX10_pushMarked_22 : decode cX10_pushMarked 22 = .ok (.iload_n 2, 1) := by decide +kernel
theorem dX10_pushMarked_23 : decode cX10_pushMarked 23 = .ok (.if_icmp .lt 16, 3) := by decide +kernel
theorem dX10_pushMarked_26 : decode cX10_pushMarked 26 = .ok (.aload_n 0, 1) := by decide +kernel
theorem dX10_pushMarked_27 : decode cX10_pushMarked 27 = .ok (.getfield 72, 3) := by decide +kernel
theorem dX10_pushMarked_30 : decode cX10_pushMarked 30 = .ok (.dup, 1) := by decide +kernel
theorem dX10_pushMarked_31 : decode cX10_pushMarked 31 = .ok (.getfield 278, 3) := by decide +kernel
theorem dX10_pushMarked_34 : decode cX10_pushMarked 34 = .ok (.iconst 1, 1) := by decide +kernel
theorem dX10_pushMarked_35 : decode cX10_pushMarked 35 = .ok (.iadd, 1) := by decide +kernel
theorem dX10_pushMarked_36 : decode cX10_pushMarked 36 = .ok (.putfield 278, 3) := by decide +kernel
theorem dX10_pushMarked_39 : decode cX10_pushMarked 39 = .ok (.aload_n 0, 1) := by decide +kernel
theorem dX10_pushMarked_40 : decode cX10_pushMarked 40 = .ok (.getfield 72, 3) := by decide +kernel
theorem dX10_pushMarked_43 : decode cX10_pushMarked 43 = .ok (.iload_n 1, 1) := by decide +kernel
theorem dX10_pushMarked_44 : decode cX10_pushMarked 44 = .ok (.aload_n 0, 1) := by decide +kernel
theorem dX10_pushMarked_45 : decode cX10_pushMarked 45 = .ok (.getfield 10, 3) := by decide +kernel
theorem dX10_pushMarked_48 : decode cX10_pushMarked 48 = .ok (.getfield 102, 3) := by decide +kernel
theorem dX10_pushMarked_51 : decode cX10_pushMarked 51 = .ok (.iload_n 1, 1) := by decide +kernel
theorem dX10_pushMarked_52 : decode cX10_pushMarked 52 = .ok (.iaload, 1) := by decide +kernel
theorem dX10_pushMarked_53 : decode cX10_pushMarked 53 = .ok (.invokevirtual 241, 3) := by decide +kernel
theorem dX10_pushMarked_56 : decode cX10_pushMarked 56 = .ok (.aload_n 0, 1) := by decide +kernel
theorem dX10_pushMarked_57 : decode cX10_pushMarked 57 = .ok (.getfield 72, 3) := by decide +kernel
theorem dX10_pushMarked_60 : decode cX10_pushMarked 60 = .ok (.getfield 244, 3) := by decide +kernel
theorem dX10_pushMarked_63 : decode cX10_pushMarked 63 = .ok (.ireturn, 1) := by decide +kernel
theorem dX10_stayedWithinDepth_0 : decode cX10_stayedWithinDepth 0 = .ok (.aload_n 0, 1) := by decide +kernel
theorem dX10_stayedWithinDepth_1 : decode cX10_stayedWithinDepth 1 = .ok (.getfield 44, 3) := by decide +kernel
theorem dX10_stayedWithinDepth_4 : decode cX10_stayedWithinDepth 4 = .ok (.iconst (-1), 1) := by decide +kernel
theorem dX10_stayedWithinDepth_5 : decode cX10_stayedWithinDepth 5 = .ok (.invokevirtual 176, 3) := by decide +kernel
theorem dX10_stayedWithinDepth_8 : decode cX10_stayedWithinDepth 8 = .ok (.aload_n 0, 1) := by decide +kernel
theorem dX10_stayedWithinDepth_9 : decode cX10_stayedWithinDepth 9 = .ok (.getfield 44, 3) := by decide +kernel
theorem dX10_stayedWithinDepth_12 : decode cX10_stayedWithinDepth 12 = .ok (.getfield 180, 3) := by decide +kernel
theorem dX10_stayedWithinDepth_15 : decode cX10_stayedWithinDepth 15 = .ok (.aload_n 0, 1) := by decide +kernel
theorem dX10_stayedWithinDepth_16 : decode cX10_stayedWithinDepth 16 = .ok (.getfield 72, 3) := by decide +kernel
theorem dX10_stayedWithinDepth_19 : decode cX10_stayedWithinDepth 19 = .ok (.getfield 269, 3) := by decide +kernel
theorem dX10_stayedWithinDepth_22 : decode cX10_stayedWithinDepth 22 = .ok (.iaload, 1) := by decide +kernel
theorem dX10_stayedWithinDepth_23 : decode cX10_stayedWithinDepth 23 = .ok (.istore_n 1, 1) := by decide +kernel
theorem dX10_stayedWithinDepth_24 : decode cX10_stayedWithinDepth 24 = .ok (.iload_n 1, 1) := by decide +kernel
theorem dX10_stayedWithinDepth_25 : decode cX10_stayedWithinDepth 25 = .ok (.bipush (-5), 2) := by decide +kernel
theorem dX10_stayedWithinDepth_27 : decode cX10_stayedWithinDepth 27 = .ok (.if_icmp .eq 14, 3) := by decide +kernel
theorem dX10_stayedWithinDepth_30 : decode cX10_stayedWithinDepth 30 = .ok (.aload_n 0, 1) := by decide +kernel
theorem dX10_stayedWithinDepth_31 : decode cX10_stayedWithinDepth 31 = .ok (.getfield 72, 3) := by decide +kernel
theorem dX10_stayedWithinDepth_34 : decode cX10_stayedWithinDepth 34 = .ok (.getfield 272, 3) := by decide +kernel
theorem dX10_stayedWithinDepth_37 : decode cX10_stayedWithinDepth 37 = .ok (.iload_n 1, 1) := by decide +kernel
theorem dX10_stayedWithinDepth_38 : decode cX10_stayedWithinDepth 38 = .ok (.if_icmp .gt 7, 3) := by decide +kernel
theorem dX10_stayedWithinDepth_41 : decode cX10_stayedWithinDepth 41 = .ok (.iconst 1, 1) := by decide +kernel
theorem dX10_stayedWithinDepth_42 : decode cX10_stayedWithinDepth 42 = .ok (.goto 4, 3) := by decide +kernel
theorem dX10_stayedWithinDepth_45 : decode cX10_stayedWithinDepth 45 = .ok (.iconst 0, 1) := by decide +kernel
theorem dX10_stayedWithinDepth_46 : decode cX10_stayedWithinDepth 46 = .ok (.ireturn, 1) := by decide +kernel
end
section
theorem dX11_init_0 : decode cX11_init 0 = .ok (.aload_n 0, 1) := by decide +kernel
theorem dX11_init_1 : decode cX11_init 1 = .ok (.invokespecial 1, 3) := by decide +kernel
theorem dX11_init_4 : decode cX11_init 4 = .ok (.aload_n 0, 1) := by decide +kernel
theorem dX11_init_5 : decode cX11_init 5 = .ok (.bipush 20, 2) := by decide +kernel
theorem dX11_init_7 : decode cX11_init 7 = .ok (.newarray .int, 2) := by decide +kernel
theorem dX11_init_9 : decode cX11_init 9 = .ok (.putfield 7, 3) := by decide +kernel
theorem dX11_init_12 : decode cX11_init 12 = .ok (.aload_n 0, 1) := by decide +kernel
theorem dX11_init_13 : decode cX11_init 13 = .ok (.bipush 20, 2) := by decide +kernel
theorem dX11_init_15 : decode cX11_init 15 = .ok (.newarray .int, 2) := by decide +kernel
theorem dX11_init_17 : decode cX11_init 17 = .ok (.putfield 13, 3) := by decide +kernel
theorem dX11_init_20 : decode cX11_init 20 = .ok (.aload_n 0, 1) := by decide +kernel
theorem dX11_init_21 : decode cX11_init 21 = .ok (.bipush 60, 2) := by decide +kernel
theorem dX11_init_23 : decode cX11_init 23 = .ok (.newarray .int, 2) := by decide +kernel
theorem dX11_init_25 : decode cX11_init 25 = .ok (.putfield 16, 3) := by decide +kernel
theorem dX11_init_28 : decode cX11_init 28 = .ok (.aload_n 0, 1) := by decide +kernel
theorem dX11_init_29 : decode cX11_init 29 = .ok (.bipush 60, 2) := by decide +kernel
theorem dX11_init_31 : decode cX11_init 31 = .ok (.newarray .int, 2) := by decide +kernel
theorem dX11_init_33 : decode cX11_init 33 = .ok (.putfield 19, 3) := by decide +kernel
theorem dX11_init_36 : decode cX11_init 36 = .ok (.aload_n 0, 1) := by decide +kernel
theorem dX11_init_37 : decode cX11_init 37 = .ok (.bipush 60, 2) := by decide +kernel
theorem dX11_init_39 : decode cX11_init 39 = .ok (.newarray .int, 2) := by decide +kernel
theorem dX11_init_41 : decode cX11_init 41 = .ok (.putfield 22, 3) := by decide +kernel
theorem dX11_init_44 : decode cX11_init 44 = .ok (.aload_n 0, 1) := by decide +kernel
theorem dX11_init_45 : decode cX11_init 45 = .ok (.bipush 8, 2) := by decide +kernel
theorem dX11_init_47 : decode cX11_init 47 = .ok (.newarray .int, 2) := by decide +kernel
theorem dX11_init_49 : decode cX11_init 49 = .ok (.putfield 25, 3) := by decide +kernel
theorem dX11_init_52 : decode cX11_init 52 = .ok (.aload_n 0, 1) := by decide +kernel
theorem dX11_init_53 : decode cX11_init 53 = .ok (.bipush 8, 2) := by decide +kernel
theorem dX11_init_55 : decode cX11_init 55 = .ok (.newarray .int, 2) := by decide +kernel
theorem dX11_init_57 : decode cX11_init 57 = .ok (.putfield 28, 3) := by decide +kernel
theorem dX11_init_60 : decode cX11_init 60 = .ok (.aload_n 0, 1) := by decide +kernel
theorem dX11_init_61 : decode cX11_init 61 = .ok (.bipush 8, 2) := by decide +kernel
theorem dX11_init_63 : decode cX11_init 63 = .ok (.newarray .int, 2) := by decide +kernel
theorem dX11_init_65 : decode cX11_init 65 = .ok (.putfield 31, 3) := by decide +kernel
theorem dX11_init_68 : decode cX11_init 68 = .ok (.aload_n 0, 1) := by decide +kernel
theorem dX11_init_69 : decode cX11_init 69 = .ok (.bipush 20, 2) := by decide +kernel
theorem dX11_init_71 : decode cX11_init 71 = .ok (.newarray .int, 2) := by decide +kernel
theorem dX11_init_73 : decode cX11_init 73 = .ok (.putfield 34, 3) := by decide +kernel
theorem dX11_init_76 : decode cX11_init 76 = .ok (.aload_n 0, 1) := by decide +kernel
theorem dX11_init_77 : decode cX11_init 77 = .ok (.bipush 20, 2) := by decide +kernel
theorem dX11_init_79 : decode cX11_init 79 = .ok (.newarray .int, 2) := by decide +kernel
theorem dX11_init_81 : decode cX11_init 81 = .ok (.putfield 37, 3) := by decide +kernel
theorem dX11_init_84 : decode cX11_init 84 = .ok (.aload_n 0, 1) := by decide +kernel
theorem dX11_init_85 : decode cX11_init 85 = .ok (.bipush 20, 2) := by decide +kernel
theorem dX11_init_87 : decode cX11_init 87 = .ok (.newarray .int, 2) := by decide +kernel
theorem dX11_init_89 : decode cX11_init 89 = .ok (.putfield 40, 3) := by decide +kernel
theorem dX11_init_92 : decode cX11_init 92 = .ok (.aload_n 0, 1) := by decide +kernel
theorem dX11_init_93 : decode cX11_init 93 = .ok (.bipush 20, 2) := by decide +kernel
theorem dX11_init_95 : decode cX11_init 95 = .ok (.newarray .int, 2) := by decide +kernel
theorem dX11_init_97 : decode cX11_init 97 = .ok (.putfield 43, 3) := by decide +kernel
theorem dX11_init_100 : decode cX11_init 100 = .ok (.aload_n 0, 1) := by decide +kernel
theorem dX11_init_101 : decode cX11_init 101 = .ok (.bipush 20, 2) := by decide +kernel
theorem dX11_init_103 : decode cX11_init 103 = .ok (.newarray .int, 2) := by decide +kernel
theorem dX11_init_105 : decode cX11_init 105 = .ok (.putfield 46, 3) := by decide +kernel
theorem dX11_init_108 : decode cX11_init 108 = .ok (.aload_n 0, 1) := by decide +kernel
theorem dX11_init_109 : decode cX11_init 109 = .ok (.bipush 8, 2) := by decide +kernel
theorem dX11_init_111 : decode cX11_init 111 = .ok (.newarray .int, 2) := by decide +kernel
theorem dX11_init_113 : decode cX11_init 113 = .ok (.putfield 49, 3) := by decide +kernel
theorem dX11_init_116 : decode cX11_init 116 = .ok (.aload_n 0, 1) := by decide +kernel
theorem dX11_init_117 : decode cX11_init 117 = .ok (.bipush 8, 2) := by decide +kernel
theorem dX11_init_119 : decode cX11_init 119 = .ok (.newarray .int, 2) := by decide +kernel
theorem dX11_init_121 : decode cX11_init 121 = .ok (.putfield 52, 3) := by decide +kernel
theorem dX11_init_124 : decode cX11_init 124 = .ok (.aload_n 0, 1) := by decide +kernel
theorem dX11_init_125 : decode cX11_init 125 = .ok (.bipush 8, 2) := by decide +kernel
theorem dX11_init_127 : decode cX11_init 127 = .ok (.newarray .int, 2) := by decide +kernel
theorem dX11_init_129 : decode cX11_init 129 = .ok (.putfield 55, 3) := by decide +kernel
theorem dX11_init_132 : decode cX11_init 132 = .ok (.aload_n 0, 1) := by decide +kernel
theorem dX11_init_133 : decode cX11_init 133 = .ok (.bipush 6, 2) := by decide +kernel
theorem dX11_init_135 : decode cX11_init 135 = .ok (.newarray .int, 2) := by decide +kernel
theorem dX11_init_137 : decode cX11_init 137 = .ok (.putfield 58, 3) := by decide +kernel
theorem dX11_init_140 : decode cX11_init 140 = .ok (.aload_n 0, 1) := by decide +kernel
theorem dX11_init_141 : decode cX11_init 141 = .ok (.bipush 6, 2) := by decide +kernel
theorem dX11_init_143 : decode cX11_init 143 = .ok (.newarray .int, 2) := by decide +kernel
theorem dX11_init_145 : decode cX11_init 145 = .ok (.putfield 61, 3) := by decide +kernel
theorem dX11_init_148 : decode cX11_init 148 = .ok (.aload_n 0, 1) := by decide +kernel
theorem dX11_init_149 : decode cX11_init 149 = .ok (.bipush 6, 2) := by decide +kernel
theorem dX11_init_151 : decode cX11_init 151 = .ok (.newarray .int, 2) := by decide +kernel
theorem dX11_init_153 : decode cX11_init 153 = .ok (.putfield 64, 3) := by decide +kernel
theorem dX11_init_156 : decode cX11_init 156 = .ok (.aload_n 0, 1) := by decide +kernel
theorem dX11_init_157 : decode cX11_init 157 = .ok (.bipush 6, 2) := by decide +kernel
theorem dX11_init_159 : decode cX11_init 159 = .ok (.newarray .int, 2) := by decide +kernel
theorem dX11_init_161 : decode cX11_init 161 = .ok (.putfield 67, 3) := by decide +kernel
theorem dX11_init_164 : decode cX11_init 164 = .ok (.aload_n 0, 1) := by decide +kernel
theorem dX11_init_165 : decode cX11_init 165 = .ok (.bipush 6, 2) := by decide +kernel
theorem dX11_init_167 : decode cX11_init 167 = .ok (.newarray .int, 2) := by decide +kernel
theorem dX11_init_169 : decode cX11_init 169 = .ok (.putfield 70, 3) := by decide +kernel
theorem dX11_init_172 : decode cX11_init 172 = .ok (.aload_n 0, 1) := by decide +kernel
theorem dX11_init_173 : decode cX11_init 173 = .ok (.bipush 6, 2) := by decide +kernel
theorem dX11_init_175 : decode cX11_init 175 = .ok (.newarray .int, 2) := by decide +kernel
theorem dX11_init_177 : decode cX11_init 177 = .ok (.putfield 73, 3) := by decide +kernel
theorem dX11_init_180 : decode cX11_init 180 = .ok (.aload_n 0, 1) := by decide +kernel
theorem dX11_init_181 : decode cX11_init 181 = .ok (.bipush 40, 2) := by decide +kernel
theorem dX11_init_183 : decode cX11_init 183 = .ok (.newarray .int, 2) := by decide +kernel
theorem dX11_init_185 : decode cX11_init 185 = .ok (.putfield 76, 3) := by decide +kernel
theorem dX11_init_188 : decode cX11_init 188 = .ok (.aload_n 0, 1) := by decide +kernel
theorem dX11_init_189 : decode cX11_init 189 = .ok (.bipush 40, 2) := by decide +kernel
theorem dX11_init_191 : decode cX11_init 191 = .ok (.newarray .int, 2) := by decide +kernel
theorem dX11_init_193 : decode cX11_init 193 = .ok (.putfield 79, 3) := by decide +kernel
theorem dX11_init_196 : decode cX11_init 196 = .ok (.aload_n 0, 1) := by decide +kernel
theorem dX11_init_197 : decode cX11_init 197 = .ok (.iconst 4, 1) := by decide +kernel
theorem dX11_init_198 : decode cX11_init 198 = .ok (.newarray .int, 2) := by decide +kernel
theorem dX11_init_200 : decode cX11_init 200 = .ok (.dup, 1) := by decide +kernel
theorem dX11_init_201 : decode cX11_init 201 = .ok (.iconst 0, 1) := by decide +kernel
theorem dX11_init_202 : decode cX11_init 202 = .ok (.bipush (-4), 2) := by decide +kernel
theorem dX11_init_204 : decode cX11_init 204 = .ok (.iastore, 1) := by decide +kernel
theorem dX11_init_205 : decode cX11_init 205 = .ok (.dup, 1) := by decide +kernel
theorem dX11_init_206 : decode cX11_init 206 = .ok (.iconst 1, 1) := by decide +kernel
theorem dX11_init_207 : decode cX11_init 207 = .ok (.bipush (-4), 2) := by decide +kernel
theorem dX11_init_209 : decode cX11_init 209 = .ok (.iastore, 1) := by decide +kernel
theorem dX11_init_210 : decode cX11_init 210 = .ok (.dup, 1) := by decide +kernel
theorem dX11_init_211 : decode cX11_init 211 = .ok (.iconst 2, 1) := by decide +kernel
theorem dX11_init_212 : decode cX11_init 212 = .ok (.bipush (-4), 2) := by decide +kernel
theorem dX11_init_214 : decode cX11_init 214 = .ok (.iastore, 1) := by decide +kernel
theorem dX11_init_215 : decode cX11_init 215 = .ok (.dup, 1) := by decide +kernel
theorem dX11_init_216 : decode cX11_init 216 = .ok (.iconst 3, 1) := by decide +kernel
theorem dX11_init_217 : decode cX11_init 217 = .ok (.bipush (-4), 2) := by decide +kernel
theorem dX11_init_219 : decode cX11_init 219 = .ok (.iastore, 1) := by decide +kernel
theorem dX11_init_220 : decode cX11_init 220 = .ok (.putfield 82, 3) := by decide +kernel
theorem dX11_init_223 : decode cX11_init 223 = .ok (.aload_n 0, 1) := by decide +kernel
theorem dX11_init_224 : decode cX11_init 224 = .ok (.iconst 4, 1) := by decide +kernel
theorem dX11_init_225 : decode cX11_init 225 = .ok (.newarray .int, 2) := by decide +kernel
theorem dX11_init_227 : decode cX11_init 227 = .ok (.putfield 85, 3) := by decide +kernel
theorem dX11_init_230 : decode cX11_init 230 = .ok (.aload_n 0, 1) := by decide +kernel
theorem dX11_init_231 : decode cX11_init 231 = .ok (.sipush 240, 3) := by decide +kernel
theorem dX11_init_234 : decode cX11_init 234 = .ok (.newarray .int, 2) := by decide +kernel
theorem dX11_init_236 : decode cX11_init 236 = .ok (.putfield 88, 3) := by decide +kernel
theorem dX11_init_239 : decode cX11_init 239 = .ok (.return_, 1) := by decide +kernel
theorem dX11_in_0 : decode cX11_in 0 = .ok (.lload_n 0, 1) := by decide +kernel
theorem dX11_in_1 : decode cX11_in 1 = .ok (.lload_n 2, 1) := by decide +kernel
theorem dX11_in_2 : decode cX11_in 2 = .ok (.lcmp, 1) := by decide +kernel
theorem dX11_in_3 : decode cX11_in 3 = .ok (.ifCond .lt 14, 3) := by decide +kernel
theorem dX11_in_6 : decode cX11_in 6 = .ok (.lload_n 0, 1) := by decide +kernel
theorem dX11_in_7 : decode cX11_in 7 = .ok (.lload 4, 2) := by decide +kernel
theorem dX11_in_9 : decode cX11_in 9 = .ok (.lcmp, 1) := by decide +kernel
theorem dX11_in_10 : decode cX11_in 10 = .ok (.ifCond .gt 7, 3) := by decide +kernel
theorem dX11_in_13 : decode cX11_in 13 = .ok (.iconst 1, 1) := by decide +kernel
theorem dX11_in_14 : decode cX11_in 14 = .ok (.goto 4, 3) := by decide +kernel
theorem dX11_in_17 : decode cX11_in 17 = .ok (.iconst 0, 1) := by decide +kernel
theorem dX11_in_18 : decode cX11_in 18 = .ok (.ireturn, 1) := by decide +kernel
theorem dX11_is_0 : decode cX11_is 0 = .ok (.iload_n 1, 1) := by decide +kernel
theorem dX11_is_1 : decode cX11_is 1 = .ok (.i2l, 1) := by decide +kernel
theorem dX11_is_2 : decode cX11_is 2 = .ok (.lconst 0, 1) := by decide +kernel
theorem dX11_is_3 : decode cX11_is 3 = .ok (.aload_n 0, 1) := by decide +kernel
theorem dX11_is_4 : decode cX11_is 4 = .ok (.getfield 91, 3) := by decide +kernel
theorem dX11_is_7 : decode cX11_is 7 = .ok (.iconst 1, 1) := by decide +kernel
theorem dX11_is_8 : decode cX11_is 8 = .ok (.isub, 1) := by decide +kernel
theorem dX11_is_9 : decode cX11_is 9 = .ok (.i2l, 1) := by decide +kernel
theorem dX11_is_10 : decode cX11_is 10 = .ok (.invokestatic 95, 3) := by decide +kernel
theorem dX11_is_13 : decode cX11_is 13 = .ok (.ireturn, 1) := by decide +kernel
theorem dX11_isPointer_0 : decode cX11_isPointer 0 = .ok (.iload_n 0, 1) := by decide +kernel
theorem dX11_isPointer_1 : decode cX11_isPointer 1 = .ok (.i2l, 1) := by decide +kernel
theorem dX11_isPointer_2 : decode cX11_isPointer 2 = .ok (.lconst 0, 1) := by decide +kernel
theorem dX11_isPointer_3 : decode cX11_isPointer 3 = .ok (.ldc2_w 99, 3) := by decide +kernel
theorem dX11_isPointer_6 : decode cX11_isPointer 6 = .ok (.invokestatic 95, 3) := by decide +kernel
theorem dX11_isPointer_9 : decode cX11_isPointer 9 = .ok (.ireturn, 1) := by decide +kernel
theorem dX11_routine_0 : decode cX11_routine 0 = .ok (.iload_n 1, 1) := by decide +kernel
theorem dX11_routine_1 : decode cX11_routine 1 = .ok (.i2l, 1) := by decide +kernel
theorem dX11_routine_2 : decode cX11_routine 2 = .ok (.lconst 0, 1) := by decide +kernel
theorem dX11_routine_3 : decode cX11_routine 3 = .ok (.ldc2_w 101, 3) := by decide +kernel
theorem dX11_routine_6 : decode cX11_routine 6 = .ok (.invokestatic 95, 3) := by decide +kernel
theorem dX11_routine_9 : decode cX11_routine 9 = .ok (.ifCond .ne 5, 3) := by decide +kernel
theorem dX11_routine_12 : decode cX11_routine 12 = .ok (.iconst (-1), 1) := by decide +kernel
theorem dX11_routine_13 : decode cX11_routine 13 = .ok (.ireturn, 1) := by decide +kernel
theorem dX11_routine_14 : decode cX11_routine 14 = .ok (.aload_n 0, 1) := by decide +kernel
theorem dX11_routine_15 : decode cX11_routine 15 = .ok (.getfield 91, 3) := by decide +kernel
theorem dX11_routine_18 : decode cX11_routine 18 = .ok (.bipush 20, 2) := by decide +kernel
theorem dX11_routine_20 : decode cX11_routine 20 = .ok (.if_icmp .ne 6, 3) := by decide +kernel
theorem dX11_routine_23 : decode cX11_routine 23 = .ok (.bipush (-3), 2) := by decide +kernel
theorem dX11_routine_25 : decode cX11_routine 25 = .ok (.ireturn, 1) := by decide +kernel
theorem dX11_routine_26 : decode cX11_routine 26 = .ok (.aload_n 0, 1) := by decide +kernel
theorem dX11_routine_27 : decode cX11_routine 27 = .ok (.getfield 7, 3) := by decide +kernel
theorem dX11_routine_30 : decode cX11_routine 30 = .ok (.aload_n 0, 1) := by decide +kernel
theorem dX11_routine_31 : decode cX11_routine 31 = .ok (.getfield 91, 3) := by decide +kernel
theorem dX11_routine_34 : decode cX11_routine 34 = .ok (.iload_n 1, 1) := by decide +kernel
theorem dX11_routine_35 : decode cX11_routine 35 = .ok (.iastore, 1) := by decide +kernel
theorem dX11_routine_36 : decode cX11_routine 36 = .ok (.aload_n 0, 1) := by decide +kernel
theorem dX11_routine_37 : decode cX11_routine 37 = .ok (.getfield 13, 3) := by decide +kernel
theorem dX11_routine_40 : decode cX11_routine 40 = .ok (.aload_n 0, 1) := by decide +kernel
theorem dX11_routine_41 : decode cX11_routine 41 = .ok (.getfield 91, 3) := by decide +kernel
theorem dX11_routine_44 : decode cX11_routine 44 = .ok (.iconst 0, 1) := by decide +kernel
theorem dX11_routine_45 : decode cX11_routine 45 = .ok (.iastore, 1) := by decide +kernel
theorem dX11_routine_46 : decode cX11_routine 46 = .ok (.aload_n 0, 1) := by decide +kernel
theorem dX11_routine_47 : decode cX11_routine 47 = .ok (.dup, 1) := by decide +kernel
theorem dX11_routine_48 : decode cX11_routine 48 = .ok (.getfield 91, 3) := by decide +kernel
theorem dX11_routine_51 : decode cX11_routine 51 = .ok (.iconst 1, 1) := by decide +kernel
theorem dX11_routine_52 : decode cX11_routine 52 = .ok (.iadd, 1) := by decide +kernel
theorem dX11_routine_53 : decode cX11_routine 53 = .ok (.putfield 91, 3) := by decide +kernel
theorem dX11_routine_56 : decode cX11_routine 56 = .ok (.aload_n 0, 1) := by decide +kernel
theorem dX11_routine_57 : decode cX11_routine 57 = .ok (.getfield 91, 3) := by decide +kernel
theorem dX11_routine_60 : decode cX11_routine 60 = .ok (.iconst 1, 1) := by decide +kernel
theorem dX11_routine_61 : decode cX11_routine 61 = .ok (.isub, 1) := by decide +kernel
theorem dX11_routine_62 : decode cX11_routine 62 = .ok (.ireturn, 1) := by decide +kernel
theorem dX11_frame_0 : decode cX11_frame 0 = .ok (.aload_n 0, 1) := by decide +kernel
theorem dX11_frame_1 : decode cX11_frame 1 = .ok (.iload_n 1, 1) := by decide +kernel
theorem dX11_frame_2 : decode cX11_frame 2 = .ok (.invokevirtual 103, 3) := by decide +kernel
theorem dX11_frame_5 : decode cX11_frame 5 = .ok (.ifCond .eq 15, 3) := by decide +kernel
theorem dX11_frame_8 : decode cX11_frame 8 = .ok (.iload_n 2, 1) := by decide +kernel
theorem dX11_frame_9 : decode cX11_frame 9 = .ok (.i2l, 1) := by decide +kernel
theorem dX11_frame_10 : decode cX11_frame 10 = .ok (.lconst 0, 1) := by decide +kernel
theorem dX11_frame_11 : decode cX11_frame 11 = .ok (.ldc2_w 101, 3) := by decide +kernel
theorem dX11_frame_14 : decode cX11_frame 14 = .ok (.invokestatic 95, 3) := by decide +kernel
theorem dX11_frame_17 : decode cX11_frame 17 = .ok (.ifCond .ne 5, 3) := by decide +kernel
theorem dX11_frame_20 : decode cX11_frame 20 = .ok (.iconst (-1), 1) := by decide +kernel
theorem dX11_frame_21 : decode cX11_frame 21 = .ok (.ireturn, 1) := by decide +kernel
theorem dX11_frame_22 : decode cX11_frame 22 = .ok (.aload_n 0, 1) := by decide +kernel
theorem dX11_frame_23 : decode cX11_frame 23 = .ok (.getfield 7, 3) := by decide +kernel
theorem dX11_frame_26 : decode cX11_frame 26 = .ok (.iload_n 1, 1) := by decide +kernel
theorem dX11_frame_27 : decode cX11_frame 27 = .ok (.iaload, 1) := by decide +kernel
theorem dX11_frame_28 : decode cX11_frame 28 = .ok (.istore_n 3, 1) := by decide +kernel
theorem dX11_frame_29 : decode cX11_frame 29 = .ok (.aload_n 0, 1) := by decide +kernel
theorem dX11_frame_30 : decode cX11_frame 30 = .ok (.getfield 7, 3) := by decide +kernel
theorem dX11_frame_33 : decode cX11_frame 33 = .ok (.iload_n 1, 1) := by decide +kernel
theorem dX11_frame_34 : decode cX11_frame 34 = .ok (.iload_n 2, 1) := by decide +kernel
theorem dX11_frame_35 : decode cX11_frame 35 = .ok (.iastore, 1) := by decide +kernel
theorem dX11_frame_36 : decode cX11_frame 36 = .ok (.iload_n 3, 1) := by decide +kernel
theorem dX11_frame_37 : decode cX11_frame 37 = .ok (.ireturn, 1) := by decide +kernel
theorem dX11_turns_0 : decode cX11_turns 0 = .ok (.aload_n 0, 1) := by decide +kernel
theorem dX11_turns_1 : decode cX11_turns 1 = .ok (.iload_n 1, 1) := by decide +kernel
theorem dX11_turns_2 : decode cX11_turns 2 = .ok (.invokevirtual 103, 3) := by decide +kernel
theorem dX11_turns_5 : decode cX11_turns 5 = .ok (.ifCond .eq 15, 3) := by decide +kernel
theorem dX11_turns_8 : decode cX11_turns 8 = .ok (.iload_n 2, 1) := by decide +kernel
theorem dX11_turns_9 : decode cX11_turns 9 = .ok (.i2l, 1) := by decide +kernel
theorem dX11_turns_10 : decode cX11_turns 10 = .ok (.lconst 0, 1) := by decide +kernel
theorem dX11_turns_11 : decode cX11_turns 11 = .ok (.ldc2_w 107, 3) := by decide +kernel
theorem dX11_turns_14 : decode cX11_turns 14 = .ok (.invokestatic 95, 3) := by decide +kernel
theorem dX11_turns_17 : decode cX11_turns 17 = .ok (.ifCond .ne 5, 3) := by decide +kernel
theorem dX11_turns_20 : decode cX11_turns 20 = .ok (.iconst (-1), 1) := by decide +kernel
theorem dX11_turns_21 : decode cX11_turns 21 = .ok (.ireturn, 1) := by decide +kernel
theorem dX11_turns_22 : decode cX11_turns 22 = .ok (.aload_n 0, 1) := by decide +kernel
theorem dX11_turns_23 : decode cX11_turns 23 = .ok (.getfield 13, 3) := by decide +kernel
theorem dX11_turns_26 : decode cX11_turns 26 = .ok (.iload_n 1, 1) := by decide +kernel
theorem dX11_turns_27 : decode cX11_turns 27 = .ok (.iaload, 1) := by decide +kernel
theorem dX11_turns_28 : decode cX11_turns 28 = .ok (.istore_n 3, 1) := by decide +kernel
theorem dX11_turns_29 : decode cX11_turns 29 = .ok (.aload_n 0, 1) := by decide +kernel
theorem dX11_turns_30 : decode cX11_turns 30 = .ok (.getfield 13, 3) := by decide +kernel
theorem dX11_turns_33 : decode cX11_turns 33 = .ok (.iload_n 1, 1) := by decide +kernel
theorem dX11_turns_34 : decode cX11_turns 34 = .ok (.iload_n 2, 1) := by decide +kernel
theorem dX11_turns_35 : decode cX11_turns 35 = .ok (.iastore, 1) := by decide +kernel
theorem dX11_turns_36 : decode cX11_turns 36 = .ok (.iload_n 3, 1) := by decide +kernel
theorem dX11_turns_37 : decode cX11_turns 37 = .ok (.ireturn, 1) := by decide +kernel
theorem dX11_find_0 : decode cX11_find 0 = .ok (.iconst 0, 1) := by decide +kernel
theorem dX11_find_1 : decode cX11_find 1 = .ok (.istore 4, 2) := by decide +kernel
theorem dX11_find_3 : decode cX11_find 3 = .ok (.iload 4, 2) := by decide +kernel
theorem dX11_find_5 : decode cX11_find 5 = .ok (.aload_n 0, 1) := by decide +kernel
theorem dX11_find_6 : decode cX11_find 6 = .ok (.getfield 109, 3) := by decide +kernel
theorem dX11_find_9 : decode cX11_find 9 = .ok (.if_icmp .ge 45, 3) := by decide +kernel
theorem dX11_find_12 : decode cX11_find 12 = .ok (.aload_n 0, 1) := by decide +kernel
theorem dX11_find_13 : decode cX11_find 13 = .ok (.getfield 16, 3) := by decide +kernel
theorem dX11_find_16 : decode cX11_find 16 = .ok (.iload 4, 2) := by decide +kernel
theorem dX11_find_18 : decode cX11_find 18 = .ok (.iaload, 1) := by decide +kernel
theorem dX11_find_19 : decode cX11_find 19 = .ok (.iload_n 1, 1) := by decide +kernel
theorem dX11_find_20 : decode cX11_find 20 = .ok (.if_icmp .ne 28, 3) := by decide +kernel
theorem dX11_find_23 : decode cX11_find 23 = .ok (.aload_n 0, 1) := by decide +kernel
theorem dX11_find_24 : decode cX11_find 24 = .ok (.getfield 19, 3) := by decide +kernel
theorem dX11_find_27 : decode cX11_find 27 = .ok (.iload 4, 2) := by decide +kernel
theorem dX11_find_29 : decode cX11_find 29 = .ok (.iaload, 1) := by decide +kernel
theorem dX11_find_30 : decode cX11_find 30 = .ok (.iload_n 2, 1) := by decide +kernel
theorem dX11_find_31 : decode cX11_find 31 = .ok (.if_icmp .ne 17, 3) := by decide +kernel
theorem dX11_find_34 : decode cX11_find 34 = .ok (.aload_n 0, 1) := by decide +kernel
theorem dX11_find_35 : decode cX11_find 35 = .ok (.getfield 22, 3) := by decide +kernel
theorem dX11_find_38 : decode cX11_find 38 = .ok (.iload 4, 2) := by decide +kernel
theorem dX11_find_40 : decode cX11_find 40 = .ok (.iaload, 1) := by decide +kernel
theorem dX11_find_41 : decode cX11_find 41 = .ok (.iload_n 3, 1) := by decide +kernel
theorem dX11_find_42 : decode cX11_find 42 = .ok (.if_icmp .ne 6, 3) := by decide +kernel
theorem dX11_find_45 : decode cX11_find 45 = .ok (.iload 4, 2) := by decide +kernel
theorem dX11_find_47 : decode cX11_find 47 = .ok (.ireturn, 1) := by decide +kernel
theorem dX11_find_48 : decode cX11_find 48 = .ok (.iinc 4 1, 3) := by decide +kernel
theorem dX11_find_51 : decode cX11_find 51 = .ok (.goto (-48), 3) := by decide +kernel
theorem dX11_find_54 : decode cX11_find 54 = .ok (.bipush (-4), 2) := by decide +kernel
theorem dX11_find_56 : decode cX11_find 56 = .ok (.ireturn, 1) := by decide +kernel
theorem dX11_called_0 : decode cX11_called 0 = .ok (.iload_n 3, 1) := by decide +kernel
theorem dX11_called_1 : decode cX11_called 1 = .ok (.i2l, 1) := by decide +kernel
theorem dX11_called_2 : decode cX11_called 2 = .ok (.lconst 0, 1) := by decide +kernel
theorem dX11_called_3 : decode cX11_called 3 = .ok (.ldc2_w 112, 3) := by decide +kernel
theorem dX11_called_6 : decode cX11_called 6 = .ok (.invokestatic 95, 3) := by decide +kernel
theorem dX11_called_9 : decode cX11_called 9 = .ok (.ifCond .eq 34, 3) := by decide +kernel
theorem dX11_called_12 : decode cX11_called 12 = .ok (.aload_n 0, 1) := by decide +kernel
theorem dX11_called_13 : decode cX11_called 13 = .ok (.iload_n 1, 1) := by decide +kernel
theorem dX11_called_14 : decode cX11_called 14 = .ok (.invokevirtual 103, 3) := by decide +kernel
theorem dX11_called_17 : decode cX11_called 17 = .ok (.ifCond .eq 26, 3) := by decide +kernel
theorem dX11_called_20 : decode cX11_called 20 = .ok (.iload_n 3, 1) := by decide +kernel
theorem dX11_called_21 : decode cX11_called 21 = .ok (.iconst 1, 1) := by decide +kernel
theorem dX11_called_22 : decode cX11_called 22 = .ok (.if_icmp .le 13, 3) := by decide +kernel
theorem dX11_called_25 : decode cX11_called 25 = .ok (.iload_n 2, 1) := by decide +kernel
theorem dX11_called_26 : decode cX11_called 26 = .ok (.invokestatic 114, 3) := by decide +kernel
theorem dX11_called_29 : decode cX11_called 29 = .ok (.ifCond .eq 14, 3) := by decide +kernel
theorem dX11_called_32 : decode cX11_called 32 = .ok (.goto 13, 3) := by decide +kernel
theorem dX11_called_35 : decode cX11_called 35 = .ok (.aload_n 0, 1) := by decide +kernel
theorem dX11_called_36 : decode cX11_called 36 = .ok (.iload_n 2, 1) := by decide +kernel
theorem dX11_called_37 : decode cX11_called 37 = .ok (.invokevirtual 103, 3) := by decide +kernel
theorem dX11_called_40 : decode cX11_called 40 = .ok (.ifCond .ne 5, 3) := by decide +kernel
theorem dX11_called_43 : decode cX11_called 43 = .ok (.iconst (-1), 1) := by decide +kernel
theorem dX11_called_44 : decode cX11_called 44 = .ok (.ireturn, 1) := by decide +kernel
theorem dX11_called_45 : decode cX11_called 45 = .ok (.aload_n 0, 1) := by decide +kernel
theorem dX11_called_46 : decode cX11_called 46 = .ok (.iload_n 1, 1) := by decide +kernel
theorem dX11_called_47 : decode cX11_called 47 = .ok (.iload_n 2, 1) := by decide +kernel
theorem dX11_called_48 : decode cX11_called 48 = .ok (.iload_n 3, 1) := by decide +kernel
theorem dX11_called_49 : decode cX11_called 49 = .ok (.invokevirtual 117, 3) := by decide +kernel
theorem dX11_called_52 : decode cX11_called 52 = .ok (.bipush (-4), 2) := by decide +kernel
theorem dX11_called_54 : decode cX11_called 54 = .ok (.if_icmp .eq 6, 3) := by decide +kernel
theorem dX11_called_57 : decode cX11_called 57 = .ok (.bipush (-2), 2) := by decide +kernel
theorem dX11_called_59 : decode cX11_called 59 = .ok (.ireturn, 1) := by decide +kernel
theorem dX11_called_60 : decode cX11_called 60 = .ok (.aload_n 0, 1) := by decide +kernel
theorem dX11_called_61 : decode cX11_called 61 = .ok (.getfield 109, 3) := by decide +kernel
theorem dX11_called_64 : decode cX11_called 64 = .ok (.bipush 60, 2) := by decide +kernel
theorem dX11_called_66 : decode cX11_called 66 = .ok (.if_icmp .ne 6, 3) := by decide +kernel
theorem dX11_called_69 : decode cX11_called 69 = .ok (.bipush (-3), 2) := by decide +kernel
theorem dX11_called_71 : decode cX11_called 71 = .ok (.ireturn, 1) := by decide +kernel
theorem dX11_called_72 : decode cX11_called 72 = .ok (.aload_n 0, 1) := by decide +kernel
theorem dX11_called_73 : decode cX11_called 73 = .ok (.getfield 16, 3) := by decide +kernel
theorem dX11_called_76 : decode cX11_called 76 = .ok (.aload_n 0, 1) := by decide +kernel
theorem dX11_called_77 : decode cX11_called 77 = .ok (.getfield 109, 3) := by decide +kernel
theorem dX11_called_80 : decode cX11_called 80 = .ok (.iload_n 1, 1) := by decide +kernel
theorem dX11_called_81 : decode cX11_called 81 = .ok (.iastore, 1) := by decide +kernel
theorem dX11_called_82 : decode cX11_called 82 = .ok (.aload_n 0, 1) := by decide +kernel
theorem dX11_called_83 : decode cX11_called 83 = .ok (.getfield 19, 3) := by decide +kernel
theorem dX11_called_86 : decode cX11_called 86 = .ok (.aload_n 0, 1) := by decide +kernel
theorem dX11_called_87 : decode cX11_called 87 = .ok (.getfield 109, 3) := by decide +kernel
theorem dX11_called_90 : decode cX11_called 90 = .ok (.iload_n 2, 1) := by decide +kernel
theorem dX11_called_91 : decode cX11_called 91 = .ok (.iastore, 1) := by decide +kernel
theorem dX11_called_92 : decode cX11_called 92 = .ok (.aload_n 0, 1) := by decide +kernel
theorem dX11_called_93 : decode cX11_called 93 = .ok (.getfield 22, 3) := by decide +kernel
theorem dX11_called_96 : decode cX11_called 96 = .ok (.aload_n 0, 1) := by decide +kernel
theorem dX11_called_97 : decode cX11_called 97 = .ok (.getfield 109, 3) := by decide +kernel
theorem dX11_called_100 : decode cX11_called 100 = .ok (.iload_n 3, 1) := by decide +kernel
theorem dX11_called_101 : decode cX11_called 101 = .ok (.iastore, 1) := by decide +kernel
theorem dX11_called_102 : decode cX11_called 102 = .ok (.aload_n 0, 1) := by decide +kernel
theorem dX11_called_103 : decode cX11_called 103 = .ok (.dup, 1) := by decide +kernel
theorem dX11_called_104 : decode cX11_called 104 = .ok (.getfield 109, 3) := by decide +kernel
theorem dX11_called_107 : decode cX11_called 107 = .ok (.iconst 1, 1) := by decide +kernel
theorem dX11_called_108 : decode cX11_called 108 = .ok (.iadd, 1) := by decide +kernel
theorem dX11_called_109 : decode cX11_called 109 = .ok (.putfield 109, 3) := by decide +kernel
theorem dX11_called_112 : decode cX11_called 112 = .ok (.aload_n 0, 1) := by decide +kernel
theorem dX11_called_113 : decode cX11_called 113 = .ok (.getfield 109, 3) := by decide +kernel
theorem dX11_called_116 : decode cX11_called 116 = .ok (.ireturn, 1) := by decide +kernel
theorem dX11_sortOf_0 : decode cX11_sortOf 0 = .ok (.iload_n 0, 1) := by decide +kernel
theorem dX11_sortOf_1 : decode cX11_sortOf 1 = .ok (.ifCond .eq 7, 3) := by decide +kernel
theorem dX11_sortOf_4 : decode cX11_sortOf 4 = .ok (.iconst 2, 1) := by decide +kernel
theorem dX11_sortOf_5 : decode cX11_sortOf 5 = .ok (.goto 4, 3) := by decide +kernel
theorem dX11_sortOf_8 : decode cX11_sortOf 8 = .ok (.iconst 0, 1) := by decide +kernel
theorem dX11_sortOf_9 : decode cX11_sortOf 9 = .ok (.iload_n 1, 1) := by decide +kernel
theorem dX11_sortOf_10 : decode cX11_sortOf 10 = .ok (.ifCond .eq 7, 3) := by decide +kernel
theorem dX11_sortOf_13 : decode cX11_sortOf 13 = .ok (.iconst 1, 1) := by decide +kernel
theorem dX11_sortOf_14 : decode cX11_sortOf 14 = .ok (.goto 4, 3) := by decide +kernel
theorem dX11_sortOf_17 : decode cX11_sortOf 17 = .ok (.iconst 0, 1) := by decide +kernel
theorem dX11_sortOf_18 : decode cX11_sortOf 18 = .ok (.iadd, 1) := by decide +kernel
theorem dX11_sortOf_19 : decode cX11_sortOf 19 = .ok (.ireturn, 1) := by decide +kernel
theorem dX11_call_0 : decode cX11_call 0 = .ok (.aload_n 0, 1) := by decide +kernel
theorem dX11_call_1 : decode cX11_call 1 = .ok (.iload_n 1, 1) := by decide +kernel
theorem dX11_call_2 : decode cX11_call 2 = .ok (.iload_n 2, 1) := by decide +kernel
theorem dX11_call_3 : decode cX11_call 3 = .ok (.iload_n 3, 1) := by decide +kernel
theorem dX11_call_4 : decode cX11_call 4 = .ok (.iload 4, 2) := by decide +kernel
theorem dX11_call_6 : decode cX11_call 6 = .ok (.invokestatic 121, 3) := by decide +kernel
theorem dX11_call_9 : decode cX11_call 9 = .ok (.invokevirtual 125, 3) := by decide +kernel
theorem dX11_call_12 : decode cX11_call 12 = .ok (.ireturn, 1) := by decide +kernel
theorem dX11_cut_0 : decode cX11_cut 0 = .ok (.aload_n 0, 1) := by decide +kernel
theorem dX11_cut_1 : decode cX11_cut 1 = .ok (.iload_n 1, 1) := by decide +kernel
theorem dX11_cut_2 : decode cX11_cut 2 = .ok (.invokevirtual 103, 3) := by decide +kernel
theorem dX11_cut_5 : decode cX11_cut 5 = .ok (.ifCond .eq 25, 3) := by decide +kernel
theorem dX11_cut_8 : decode cX11_cut 8 = .ok (.iload_n 3, 1) := by decide +kernel
theorem dX11_cut_9 : decode cX11_cut 9 = .ok (.ifCond .eq 13, 3) := by decide +kernel
theorem dX11_cut_12 : decode cX11_cut 12 = .ok (.iload_n 2, 1) := by decide +kernel
theorem dX11_cut_13 : decode cX11_cut 13 = .ok (.invokestatic 114, 3) := by decide +kernel
theorem dX11_cut_16 : decode cX11_cut 16 = .ok (.ifCond .eq 14, 3) := by decide +kernel
theorem dX11_cut_19 : decode cX11_cut 19 = .ok (.goto 13, 3) := by decide +kernel
theorem dX11_cut_22 : decode cX11_cut 22 = .ok (.aload_n 0, 1) := by decide +kernel
theorem dX11_cut_23 : decode cX11_cut 23 = .ok (.iload_n 2, 1) := by decide +kernel
theorem dX11_cut_24 : decode cX11_cut 24 = .ok (.invokevirtual 103, 3) := by decide +kernel
theorem dX11_cut_27 : decode cX11_cut 27 = .ok (.ifCond .ne 5, 3) := by decide +kernel
theorem dX11_cut_30 : decode cX11_cut 30 = .ok (.iconst (-1), 1) := by decide +kernel
theorem dX11_cut_31 : decode cX11_cut 31 = .ok (.ireturn, 1) := by decide +kernel
theorem dX11_cut_32 : decode cX11_cut 32 = .ok (.aload_n 0, 1) := by decide +kernel
theorem dX11_cut_33 : decode cX11_cut 33 = .ok (.iload_n 1, 1) := by decide +kernel
theorem dX11_cut_34 : decode cX11_cut 34 = .ok (.iload_n 2, 1) := by decide +kernel
theorem dX11_cut_35 : decode cX11_cut 35 = .ok (.iload_n 3, 1) := by decide +kernel
theorem dX11_cut_36 : decode cX11_cut 36 = .ok (.iload 4, 2) := by decide +kernel
theorem dX11_cut_38 : decode cX11_cut 38 = .ok (.invokestatic 121, 3) := by decide +kernel
theorem dX11_cut_41 : decode cX11_cut 41 = .ok (.invokevirtual 117, 3) := by decide +kernel
theorem dX11_cut_44 : decode cX11_cut 44 = .ok (.istore 5, 2) := by decide +kernel
theorem dX11_cut_46 : decode cX11_cut 46 = .ok (.iload 5, 2) := by decide +kernel
theorem dX11_cut_48 : decode cX11_cut 48 = .ok (.bipush (-4), 2) := by decide +kernel
theorem dX11_cut_50 : decode cX11_cut 50 = .ok (.if_icmp .ne 6, 3) := by decide +kernel
theorem dX11_cut_53 : decode cX11_cut 53 = .ok (.bipush (-2), 2) := by decide +kernel
theorem dX11_cut_55 : decode cX11_cut 55 = .ok (.ireturn, 1) := by decide +kernel
theorem dX11_cut_56 : decode cX11_cut 56 = .ok (.aload_n 0, 1) := by decide +kernel
theorem dX11_cut_57 : decode cX11_cut 57 = .ok (.dup, 1) := by decide +kernel
theorem dX11_cut_58 : decode cX11_cut 58 = .ok (.getfield 109, 3) := by decide +kernel
theorem dX11_cut_61 : decode cX11_cut 61 = .ok (.iconst 1, 1) := by decide +kernel
theorem dX11_cut_62 : decode cX11_cut 62 = .ok (.isub, 1) := by decide +kernel
theorem dX11_cut_63 : decode cX11_cut 63 = .ok (.putfield 109, 3) := by decide +kernel
theorem dX11_cut_66 : decode cX11_cut 66 = .ok (.aload_n 0, 1) := by decide +kernel
theorem dX11_cut_67 : decode cX11_cut 67 = .ok (.getfield 16, 3) := by decide +kernel
theorem dX11_cut_70 : decode cX11_cut 70 = .ok (.iload 5, 2) := by decide +kernel
theorem dX11_cut_72 : decode cX11_cut 72 = .ok (.aload_n 0, 1) := by decide +kernel
theorem dX11_cut_73 : decode cX11_cut 73 = .ok (.getfield 16, 3) := by decide +kernel
theorem dX11_cut_76 : decode cX11_cut 76 = .ok (.aload_n 0, 1) := by decide +kernel
theorem dX11_cut_77 : decode cX11_cut 77 = .ok (.getfield 109, 3) := by decide +kernel
theorem dX11_cut_80 : decode cX11_cut 80 = .ok (.iaload, 1) := by decide +kernel
theorem dX11_cut_81 : decode cX11_cut 81 = .ok (.iastore, 1) := by decide +kernel
theorem dX11_cut_82 : decode cX11_cut 82 = .ok (.aload_n 0, 1) := by decide +kernel
theorem dX11_cut_83 : decode cX11_cut 83 = .ok (.getfield 19, 3) := by decide +kernel
theorem dX11_cut_86 : decode cX11_cut 86 = .ok (.iload 5, 2) := by decide +kernel
theorem dX11_cut_88 : decode cX11_cut 88 = .ok (.aload_n 0, 1) := by decide +kernel
theorem dX11_cut_89 : decode cX11_cut 89 = .ok (.getfield 19, 3) := by decide +kernel
theorem dX11_cut_92 : decode cX11_cut 92 = .ok (.aload_n 0, 1) := by decide +kernel
theorem dX11_cut_93 : decode cX11_cut 93 = .ok (.getfield 109, 3) := by decide +kernel
theorem dX11_cut_96 : decode cX11_cut 96 = .ok (.iaload, 1) := by decide +kernel
theorem dX11_cut_97 : decode cX11_cut 97 = .ok (.iastore, 1) := by decide +kernel
theorem dX11_cut_98 : decode cX11_cut 98 = .ok (.aload_n 0, 1) := by decide +kernel
theorem dX11_cut_99 : decode cX11_cut 99 = .ok (.getfield 22, 3) := by decide +kernel
theorem dX11_cut_102 : decode cX11_cut 102 = .ok (.iload 5, 2) := by decide +kernel
theorem dX11_cut_104 : decode cX11_cut 104 = .ok (.aload_n 0, 1) := by decide +kernel
theorem dX11_cut_105 : decode cX11_cut 105 = .ok (.getfield 22, 3) := by decide +kernel
theorem dX11_cut_108 : decode cX11_cut 108 = .ok (.aload_n 0, 1) := by decide +kernel
theorem dX11_cut_109 : decode cX11_cut 109 = .ok (.getfield 109, 3) := by decide +kernel
theorem dX11_cut_112 : decode cX11_cut 112 = .ok (.iaload, 1) := by decide +kernel
theorem dX11_cut_113 : decode cX11_cut 113 = .ok (.iastore, 1) := by decide +kernel
theorem dX11_cut_114 : decode cX11_cut 114 = .ok (.aload_n 0, 1) := by decide +kernel
theorem dX11_cut_115 : decode cX11_cut 115 = .ok (.getfield 109, 3) := by decide +kernel
theorem dX11_cut_118 : decode cX11_cut 118 = .ok (.ireturn, 1) := by decide +kernel
theorem dX11_take_0 : decode cX11_take 0 = .ok (.iload_n 1, 1) := by decide +kernel
theorem dX11_take_1 : decode cX11_take 1 = .ok (.invokestatic 114, 3) := by decide +kernel
theorem dX11_take_4 : decode cX11_take 4 = .ok (.ifCond .eq 11, 3) := by decide +kernel
theorem dX11_take_7 : decode cX11_take 7 = .ok (.aload_n 0, 1) := by decide +kernel
theorem dX11_take_8 : decode cX11_take 8 = .ok (.iload_n 2, 1) := by decide +kernel
theorem dX11_take_9 : decode cX11_take 9 = .ok (.invokevirtual 103, 3) := by decide +kernel
theorem dX11_take_12 : decode cX11_take 12 = .ok (.ifCond .ne 5, 3) := by decide +kernel
theorem dX11_take_15 : decode cX11_take 15 = .ok (.iconst (-1), 1) := by decide +kernel
theorem dX11_take_16 : decode cX11_take 16 = .ok (.ireturn, 1) := by decide +kernel
theorem dX11_take_17 : decode cX11_take 17 = .ok (.aload_n 0, 1) := by decide +kernel
theorem dX11_take_18 : decode cX11_take 18 = .ok (.getfield 25, 3) := by decide +kernel
theorem dX11_take_21 : decode cX11_take 21 = .ok (.iload_n 1, 1) := by decide +kernel
theorem dX11_take_22 : decode cX11_take 22 = .ok (.iaload, 1) := by decide +kernel
theorem dX11_take_23 : decode cX11_take 23 = .ok (.iload_n 2, 1) := by decide +kernel
theorem dX11_take_24 : decode cX11_take 24 = .ok (.ishr, 1) := by decide +kernel
theorem dX11_take_25 : decode cX11_take 25 = .ok (.iconst 1, 1) := by decide +kernel
theorem dX11_take_26 : decode cX11_take 26 = .ok (.iand, 1) := by decide +kernel
theorem dX11_take_27 : decode cX11_take 27 = .ok (.iconst 1, 1) := by decide +kernel
theorem dX11_take_28 : decode cX11_take 28 = .ok (.if_icmp .ne 6, 3) := by decide +kernel
theorem dX11_take_31 : decode cX11_take 31 = .ok (.bipush (-2), 2) := by decide +kernel
theorem dX11_take_33 : decode cX11_take 33 = .ok (.ireturn, 1) := by decide +kernel
theorem dX11_take_34 : decode cX11_take 34 = .ok (.aload_n 0, 1) := by decide +kernel
theorem dX11_take_35 : decode cX11_take 35 = .ok (.getfield 25, 3) := by decide +kernel
theorem dX11_take_38 : decode cX11_take 38 = .ok (.iload_n 1, 1) := by decide +kernel
theorem dX11_take_39 : decode cX11_take 39 = .ok (.dup2, 1) := by decide +kernel
theorem dX11_take_40 : decode cX11_take 40 = .ok (.iaload, 1) := by decide +kernel
theorem dX11_take_41 : decode cX11_take 41 = .ok (.iconst 1, 1) := by decide +kernel
theorem dX11_take_42 : decode cX11_take 42 = .ok (.iload_n 2, 1) := by decide +kernel
theorem dX11_take_43 : decode cX11_take 43 = .ok (.ishl, 1) := by decide +kernel
theorem dX11_take_44 : decode cX11_take 44 = .ok (.ior, 1) := by decide +kernel
theorem dX11_take_45 : decode cX11_take 45 = .ok (.iastore, 1) := by decide +kernel
theorem dX11_take_46 : decode cX11_take 46 = .ok (.iconst 1, 1) := by decide +kernel
theorem dX11_take_47 : decode cX11_take 47 = .ok (.ireturn, 1) := by decide +kernel
theorem dX11_flow_0 : decode cX11_flow 0 = .ok (.iload_n 1, 1) := by decide +kernel
theorem dX11_flow_1 : decode cX11_flow 1 = .ok (.invokestatic 114, 3) := by decide +kernel
theorem dX11_flow_4 : decode cX11_flow 4 = .ok (.ifCond .eq 10, 3) := by decide +kernel
theorem dX11_flow_7 : decode cX11_flow 7 = .ok (.iload_n 2, 1) := by decide +kernel
theorem dX11_flow_8 : decode cX11_flow 8 = .ok (.invokestatic 114, 3) := by decide +kernel
theorem dX11_flow_11 : decode cX11_flow 11 = .ok (.ifCond .ne 5, 3) := by decide +kernel
theorem dX11_flow_14 : decode cX11_flow 14 = .ok (.iconst (-1), 1) := by decide +kernel
theorem dX11_flow_15 : decode cX11_flow 15 = .ok (.ireturn, 1) := by decide +kernel
theorem dX11_flow_16 : decode cX11_flow 16 = .ok (.iload_n 1, 1) := by decide +kernel
theorem dX11_flow_17 : decode cX11_flow 17 = .ok (.iload_n 2, 1) := by decide +kernel
theorem dX11_flow_18 : decode cX11_flow 18 = .ok (.if_icmp .eq 17, 3) := by decide +kernel
theorem dX11_flow_21 : decode cX11_flow 21 = .ok (.aload_n 0, 1) := by decide +kernel
theorem dX11_flow_22 : decode cX11_flow 22 = .ok (.getfield 28, 3) := by decide +kernel
theorem dX11_flow_25 : decode cX11_flow 25 = .ok (.iload_n 1, 1) := by decide +kernel
theorem dX11_flow_26 : decode cX11_flow 26 = .ok (.iaload, 1) := by decide +kernel
theorem dX11_flow_27 : decode cX11_flow 27 = .ok (.iload_n 2, 1) := by decide +kernel
theorem dX11_flow_28 : decode cX11_flow 28 = .ok (.ishr, 1) := by decide +kernel
theorem dX11_flow_29 : decode cX11_flow 29 = .ok (.iconst 1, 1) := by decide +kernel
theorem dX11_flow_30 : decode cX11_flow 30 = .ok (.iand, 1) := by decide +kernel
theorem dX11_flow_31 : decode cX11_flow 31 = .ok (.iconst 1, 1) := by decide +kernel
theorem dX11_flow_32 : decode cX11_flow 32 = .ok (.if_icmp .ne 6, 3) := by decide +kernel
theorem dX11_flow_35 : decode cX11_flow 35 = .ok (.bipush (-2), 2) := by decide +kernel
theorem dX11_flow_37 : decode cX11_flow 37 = .ok (.ireturn, 1) := by decide +kernel
theorem dX11_flow_38 : decode cX11_flow 38 = .ok (.aload_n 0, 1) := by decide +kernel
theorem dX11_flow_39 : decode cX11_flow 39 = .ok (.getfield 28, 3) := by decide +kernel
theorem dX11_flow_42 : decode cX11_flow 42 = .ok (.iload_n 1, 1) := by decide +kernel
theorem dX11_flow_43 : decode cX11_flow 43 = .ok (.dup2, 1) := by decide +kernel
theorem dX11_flow_44 : decode cX11_flow 44 = .ok (.iaload, 1) := by decide +kernel
theorem dX11_flow_45 : decode cX11_flow 45 = .ok (.iconst 1, 1) := by decide +kernel
theorem dX11_flow_46 : decode cX11_flow 46 = .ok (.iload_n 2, 1) := by decide +kernel
theorem dX11_flow_47 : decode cX11_flow 47 = .ok (.ishl, 1) := by decide +kernel
theorem dX11_flow_48 : decode cX11_flow 48 = .ok (.ior, 1) := by decide +kernel
theorem dX11_flow_49 : decode cX11_flow 49 = .ok (.iastore, 1) := by decide +kernel
theorem dX11_flow_50 : decode cX11_flow 50 = .ok (.iconst 1, 1) := by decide +kernel
theorem dX11_flow_51 : decode cX11_flow 51 = .ok (.ireturn, 1) := by decide +kernel
theorem dX11_layGoals_0 : decode cX11_layGoals 0 = .ok (.iconst 0, 1) := by decide +kernel
theorem dX11_layGoals_1 : decode cX11_layGoals 1 = .ok (.istore_n 1, 1) := by decide +kernel
theorem dX11_layGoals_2 : decode cX11_layGoals 2 = .ok (.iload_n 1, 1) := by decide +kernel
theorem dX11_layGoals_3 : decode cX11_layGoals 3 = .ok (.bipush 8, 2) := by decide +kernel
theorem dX11_layGoals_5 : decode cX11_layGoals 5 = .ok (.if_icmp .ge 21, 3) := by decide +kernel
theorem dX11_layGoals_8 : decode cX11_layGoals 8 = .ok (.aload_n 0, 1) := by decide +kernel
theorem dX11_layGoals_9 : decode cX11_layGoals 9 = .ok (.getfield 31, 3) := by decide +kernel
theorem dX11_layGoals_12 : decode cX11_layGoals 12 = .ok (.iload_n 1, 1) := by decide +kernel
theorem dX11_layGoals_13 : decode cX11_layGoals 13 = .ok (.aload_n 0, 1) := by decide +kernel
theorem dX11_layGoals_14 : decode cX11_layGoals 14 = .ok (.getfield 25, 3) := by decide +kernel
theorem dX11_layGoals_17 : decode cX11_layGoals 17 = .ok (.iload_n 1, 1) := by decide +kernel
theorem dX11_layGoals_18 : decode cX11_layGoals 18 = .ok (.iaload, 1) := by decide +kernel
theorem dX11_layGoals_19 : decode cX11_layGoals 19 = .ok (.iastore, 1) := by decide +kernel
theorem dX11_layGoals_20 : decode cX11_layGoals 20 = .ok (.iinc 1 1, 3) := by decide +kernel
theorem dX11_layGoals_23 : decode cX11_layGoals 23 = .ok (.goto (-21), 3) := by decide +kernel
theorem dX11_layGoals_26 : decode cX11_layGoals 26 = .ok (.iconst 0, 1) := by decide +kernel
theorem dX11_layGoals_27 : decode cX11_layGoals 27 = .ok (.istore_n 1, 1) := by decide +kernel
theorem dX11_layGoals_28 : decode cX11_layGoals 28 = .ok (.iload_n 1, 1) := by decide +kernel
theorem dX11_layGoals_29 : decode cX11_layGoals 29 = .ok (.bipush 8, 2) := by decide +kernel
theorem dX11_layGoals_31 : decode cX11_layGoals 31 = .ok (.if_icmp .ge 70, 3) := by decide +kernel
theorem dX11_layGoals_34 : decode cX11_layGoals 34 = .ok (.iconst 0, 1) := by decide +kernel
theorem dX11_layGoals_35 : decode cX11_layGoals 35 = .ok (.istore_n 2, 1) := by decide +kernel
theorem dX11_layGoals_36 : decode cX11_layGoals 36 = .ok (.iload_n 2, 1) := by decide +kernel
theorem dX11_layGoals_37 : decode cX11_layGoals 37 = .ok (.bipush 8, 2) := by decide +kernel
theorem dX11_layGoals_39 : decode cX11_layGoals 39 = .ok (.if_icmp .ge 56, 3) := by decide +kernel
theorem dX11_layGoals_42 : decode cX11_layGoals 42 = .ok (.iconst 0, 1) := by decide +kernel
theorem dX11_layGoals_43 : decode cX11_layGoals 43 = .ok (.istore_n 3, 1) := by decide +kernel
theorem dX11_layGoals_44 : decode cX11_layGoals 44 = .ok (.iload_n 3, 1) := by decide +kernel
theorem dX11_layGoals_45 : decode cX11_layGoals 45 = .ok (.bipush 8, 2) := by decide +kernel
theorem dX11_layGoals_47 : decode cX11_layGoals 47 = .ok (.if_icmp .ge 42, 3) := by decide +kernel
theorem dX11_layGoals_50 : decode cX11_layGoals 50 = .ok (.aload_n 0, 1) := by decide +kernel
theorem dX11_layGoals_51 : decode cX11_layGoals 51 = .ok (.getfield 31, 3) := by decide +kernel
theorem dX11_layGoals_54 : decode cX11_layGoals 54 = .ok (.iload_n 2, 1) := by decide +kernel
theorem dX11_layGoals_55 : decode cX11_layGoals 55 = .ok (.dup2, 1) := by decide +kernel
theorem dX11_layGoals_56 : decode cX11_layGoals 56 = .ok (.iaload, 1) := by decide +kernel
theorem dX11_layGoals_57 : decode cX11_layGoals 57 = .ok (.aload_n 0, 1) := by decide +kernel
theorem dX11_layGoals_58 : decode cX11_layGoals 58 = .ok (.getfield 28, 3) := by decide +kernel
theorem dX11_layGoals_61 : decode cX11_layGoals 61 = .ok (.iload_n 2, 1) := by decide +kernel
theorem dX11_layGoals_62 : decode cX11_layGoals 62 = .ok (.iaload, 1) := by decide +kernel
theorem dX11_layGoals_63 : decode cX11_layGoals 63 = .ok (.iload_n 3, 1) := by decide +kernel
theorem dX11_layGoals_64 : decode cX11_layGoals 64 = .ok (.ishr, 1) := by decide +kernel
theorem dX11_layGoals_65 : decode cX11_layGoals 65 = .ok (.iconst 1, 1) := by decide +kernel
theorem dX11_layGoals_66 : decode cX11_layGoals 66 = .ok (.iand, 1) := by decide +kernel
theorem dX11_layGoals_67 : decode cX11_layGoals 67 = .ok (.iconst 1, 1) := by decide +kernel
theorem dX11_layGoals_68 : decode cX11_layGoals 68 = .ok (.if_icmp .ne 12, 3) := by decide +kernel
theorem dX11_layGoals_71 : decode cX11_layGoals 71 = .ok (.aload_n 0, 1) := by decide +kernel
theorem dX11_layGoals_72 : decode cX11_layGoals 72 = .ok (.getfield 31, 3) := by decide +kernel
theorem dX11_layGoals_75 : decode cX11_layGoals 75 = .ok (.iload_n 3, 1) := by decide +kernel
theorem dX11_layGoals_76 : decode cX11_layGoals 76 = .ok (.iaload, 1) := by decide +kernel
theorem dX11_layGoals_77 : decode cX11_layGoals 77 = .ok (.goto 4, 3) := by decide +kernel
theorem dX11_layGoals_80 : decode cX11_layGoals 80 = .ok (.iconst 0, 1) := by decide +kernel
theorem dX11_layGoals_81 : decode cX11_layGoals 81 = .ok (.ior, 1) := by decide +kernel
theorem dX11_layGoals_82 : decode cX11_layGoals 82 = .ok (.iastore, 1) := by decide +kernel
theorem dX11_layGoals_83 : decode cX11_layGoals 83 = .ok (.iinc 3 1, 3) := by decide +kernel
theorem dX11_layGoals_86 : decode cX11_layGoals 86 = .ok (.goto (-42), 3) := by decide +kernel
theorem dX11_layGoals_89 : decode cX11_layGoals 89 = .ok (.iinc 2 1, 3) := by decide +kernel
theorem dX11_layGoals_92 : decode cX11_layGoals 92 = .ok (.goto (-56), 3) := by decide +kernel
theorem dX11_layGoals_95 : decode cX11_layGoals 95 = .ok (.iinc 1 1, 3) := by decide +kernel
theorem dX11_layGoals_98 : decode cX11_layGoals 98 = .ok (.goto (-70), 3) := by decide +kernel
theorem dX11_layGoals_101 : decode cX11_layGoals 101 = .ok (.return_, 1) := by decide +kernel
theorem dX11_goals_0 : decode cX11_goals 0 = .ok (.iload_n 1, 1) := by decide +kernel
theorem dX11_goals_1 : decode cX11_goals 1 = .ok (.invokestatic 114, 3) := by decide +kernel
theorem dX11_goals_4 : decode cX11_goals 4 = .ok (.ifCond .ne 5, 3) := by decide +kernel
theorem dX11_goals_7 : decode cX11_goals 7 = .ok (.iconst (-1), 1) := by decide +kernel
theorem dX11_goals_8 : decode cX11_goals 8 = .ok (.ireturn, 1) := by decide +kernel
theorem dX11_goals_9 : decode cX11_goals 9 = .ok (.aload_n 0, 1) := by decide +kernel
theorem dX11_goals_10 : decode cX11_goals 10 = .ok (.invokevirtual 128, 3) := by decide +kernel
theorem dX11_goals_13 : decode cX11_goals 13 = .ok (.aload_n 0, 1) := by decide +kernel
theorem dX11_goals_14 : decode cX11_goals 14 = .ok (.getfield 31, 3) := by decide +kernel
theorem dX11_goals_17 : decode cX11_goals 17 = .ok (.iload_n 1, 1) := by decide +kernel
theorem dX11_goals_18 : decode cX11_goals 18 = .ok (.iaload, 1) := by decide +kernel
theorem dX11_goals_19 : decode cX11_goals 19 = .ok (.ireturn, 1) := by decide +kernel
theorem dX11_layNet_0 : decode cX11_layNet 0 = .ok (.aload_n 0, 1) := by decide +kernel
theorem dX11_layNet_1 : decode cX11_layNet 1 = .ok (.invokevirtual 128, 3) := by decide +kernel
theorem dX11_layNet_4 : decode cX11_layNet 4 = .ok (.iconst 0, 1) := by decide +kernel
theorem dX11_layNet_5 : decode cX11_layNet 5 = .ok (.istore_n 1, 1) := by decide +kernel
theorem dX11_layNet_6 : decode cX11_layNet 6 = .ok (.iload_n 1, 1) := by decide +kernel
theorem dX11_layNet_7 : decode cX11_layNet 7 = .ok (.bipush 20, 2) := by decide +kernel
theorem dX11_layNet_9 : decode cX11_layNet 9 = .ok (.if_icmp .ge 23, 3) := by decide +kernel
theorem dX11_layNet_12 : decode cX11_layNet 12 = .ok (.aload_n 0, 1) := by decide +kernel
theorem dX11_layNet_13 : decode cX11_layNet 13 = .ok (.getfield 34, 3) := by decide +kernel
theorem dX11_layNet_16 : decode cX11_layNet 16 = .ok (.iload_n 1, 1) := by decide +kernel
theorem dX11_layNet_17 : decode cX11_layNet 17 = .ok (.iconst 0, 1) := by decide +kernel
theorem dX11_layNet_18 : decode cX11_layNet 18 = .ok (.iastore, 1) := by decide +kernel
theorem dX11_layNet_19 : decode cX11_layNet 19 = .ok (.aload_n 0, 1) := by decide +kernel
theorem dX11_layNet_20 : decode cX11_layNet 20 = .ok (.getfield 37, 3) := by decide +kernel
theorem dX11_layNet_23 : decode cX11_layNet 23 = .ok (.iload_n 1, 1) := by decide +kernel
theorem dX11_layNet_24 : decode cX11_layNet 24 = .ok (.iconst 0, 1) := by decide +kernel
theorem dX11_layNet_25 : decode cX11_layNet 25 = .ok (.iastore, 1) := by decide +kernel
theorem dX11_layNet_26 : decode cX11_layNet 26 = .ok (.iinc 1 1, 3) := by decide +kernel
theorem dX11_layNet_29 : decode cX11_layNet 29 = .ok (.goto (-23), 3) := by decide +kernel
theorem dX11_layNet_32 : decode cX11_layNet 32 = .ok (.iconst 0, 1) := by decide +kernel
theorem dX11_layNet_33 : decode cX11_layNet 33 = .ok (.istore_n 1, 1) := by decide +kernel
theorem dX11_layNet_34 : decode cX11_layNet 34 = .ok (.iload_n 1, 1) := by decide +kernel
theorem dX11_layNet_35 : decode cX11_layNet 35 = .ok (.aload_n 0, 1) := by decide +kernel
theorem dX11_layNet_36 : decode cX11_layNet 36 = .ok (.getfield 109, 3) := by decide +kernel
theorem dX11_layNet_39 : decode cX11_layNet 39 = .ok (.if_icmp .ge 86, 3) := by decide +kernel
theorem dX11_layNet_42 : decode cX11_layNet 42 = .ok (.aload_n 0, 1) := by decide +kernel
theorem dX11_layNet_43 : decode cX11_layNet 43 = .ok (.getfield 22, 3) := by decide +kernel
theorem dX11_layNet_46 : decode cX11_layNet 46 = .ok (.iload_n 1, 1) := by decide +kernel
theorem dX11_layNet_47 : decode cX11_layNet 47 = .ok (.iaload, 1) := by decide +kernel
theorem dX11_layNet_48 : decode cX11_layNet 48 = .ok (.iconst 1, 1) := by decide +kernel
theorem dX11_layNet_49 : decode cX11_layNet 49 = .ok (.if_icmp .le 17, 3) := by decide +kernel
theorem dX11_layNet_52 : decode cX11_layNet 52 = .ok (.aload_n 0, 1) := by decide +kernel
theorem dX11_layNet_53 : decode cX11_layNet 53 = .ok (.getfield 31, 3) := by decide +kernel
theorem dX11_layNet_56 : decode cX11_layNet 56 = .ok (.aload_n 0, 1) := by decide +kernel
theorem dX11_layNet_57 : decode cX11_layNet 57 = .ok (.getfield 19, 3) := by decide +kernel
theorem dX11_layNet_60 : decode cX11_layNet 60 = .ok (.iload_n 1, 1) := by decide +kernel
theorem dX11_layNet_61 : decode cX11_layNet 61 = .ok (.iaload, 1) := by decide +kernel
theorem dX11_layNet_62 : decode cX11_layNet 62 = .ok (.iaload, 1) := by decide +kernel
theorem dX11_layNet_63 : decode cX11_layNet 63 = .ok (.goto 11, 3) := by decide +kernel
theorem dX11_layNet_66 : decode cX11_layNet 66 = .ok (.iconst 1, 1) := by decide +kernel
theorem dX11_layNet_67 : decode cX11_layNet 67 = .ok (.aload_n 0, 1) := by decide +kernel
theorem dX11_layNet_68 : decode cX11_layNet 68 = .ok (.getfield 19, 3) := by decide +kernel
theorem dX11_layNet_71 : decode cX11_layNet 71 = .ok (.iload_n 1, 1) := by decide +kernel
theorem dX11_layNet_72 : decode cX11_layNet 72 = .ok (.iaload, 1) := by decide +kernel
theorem dX11_layNet_73 : decode cX11_layNet 73 = .ok (.ishl, 1) := by decide +kernel
theorem dX11_layNet_74 : decode cX11_layNet 74 = .ok (.istore_n 2, 1) := by decide +kernel
theorem dX11_layNet_75 : decode cX11_layNet 75 = .ok (.aload_n 0, 1) := by decide +kernel
theorem dX11_layNet_76 : decode cX11_layNet 76 = .ok (.getfield 22, 3) := by decide +kernel
theorem dX11_layNet_79 : decode cX11_layNet 79 = .ok (.iload_n 1, 1) := by decide +kernel
theorem dX11_layNet_80 : decode cX11_layNet 80 = .ok (.iaload, 1) := by decide +kernel
theorem dX11_layNet_81 : decode cX11_layNet 81 = .ok (.iconst 2, 1) := by decide +kernel
theorem dX11_layNet_82 : decode cX11_layNet 82 = .ok (.irem, 1) := by decide +kernel
theorem dX11_layNet_83 : decode cX11_layNet 83 = .ok (.ifCond .ne 21, 3) := by decide +kernel
theorem dX11_layNet_86 : decode cX11_layNet 86 = .ok (.aload_n 0, 1) := by decide +kernel
theorem dX11_layNet_87 : decode cX11_layNet 87 = .ok (.getfield 34, 3) := by decide +kernel
theorem dX11_layNet_90 : decode cX11_layNet 90 = .ok (.aload_n 0, 1) := by decide +kernel
theorem dX11_layNet_91 : decode cX11_layNet 91 = .ok (.getfield 16, 3) := by decide +kernel
theorem dX11_layNet_94 : decode cX11_layNet 94 = .ok (.iload_n 1, 1) := by decide +kernel
theorem dX11_layNet_95 : decode cX11_layNet 95 = .ok (.iaload, 1) := by decide +kernel
theorem dX11_layNet_96 : decode cX11_layNet 96 = .ok (.dup2, 1) := by decide +kernel
theorem dX11_layNet_97 : decode cX11_layNet 97 = .ok (.iaload, 1) := by decide +kernel
theorem dX11_layNet_98 : decode cX11_layNet 98 = .ok (.iload_n 2, 1) := by decide +kernel
theorem dX11_layNet_99 : decode cX11_layNet 99 = .ok (.ior, 1) := by decide +kernel
theorem dX11_layNet_100 : decode cX11_layNet 100 = .ok (.iastore, 1) := by decide +kernel
theorem dX11_layNet_101 : decode cX11_layNet 101 = .ok (.goto 18, 3) := by decide +kernel
theorem dX11_layNet_104 : decode cX11_layNet 104 = .ok (.aload_n 0, 1) := by decide +kernel
theorem dX11_layNet_105 : decode cX11_layNet 105 = .ok (.getfield 37, 3) := by decide +kernel
theorem dX11_layNet_108 : decode cX11_layNet 108 = .ok (.aload_n 0, 1) := by decide +kernel
theorem dX11_layNet_109 : decode cX11_layNet 109 = .ok (.getfield 16, 3) := by decide +kernel
theorem dX11_layNet_112 : decode cX11_layNet 112 = .ok (.iload_n 1, 1) := by decide +kernel
theorem dX11_layNet_113 : decode cX11_layNet 113 = .ok (.iaload, 1) := by decide +kernel
theorem dX11_layNet_114 : decode cX11_layNet 114 = .ok (.dup2, 1) := by decide +kernel
theorem dX11_layNet_115 : decode cX11_layNet 115 = .ok (.iaload, 1) := by decide +kernel
theorem dX11_layNet_116 : decode cX11_layNet 116 = .ok (.iload_n 2, 1) := by decide +kernel
theorem dX11_layNet_117 : decode cX11_layNet 117 = .ok (.ior, 1) := by decide +kernel
theorem dX11_layNet_118 : decode cX11_layNet 118 = .ok (.iastore, 1) := by decide +kernel
theorem dX11_layNet_119 : decode cX11_layNet 119 = .ok (.iinc 1 1, 3) := by decide +kernel
theorem dX11_layNet_122 : decode cX11_layNet 122 = .ok (.goto (-88), 3) := by decide +kernel
theorem dX11_layNet_125 : decode cX11_layNet 125 = .ok (.iconst 0, 1) := by decide +kernel
theorem dX11_layNet_126 : decode cX11_layNet 126 = .ok (.istore_n 1, 1) := by decide +kernel
theorem dX11_layNet_127 : decode cX11_layNet 127 = .ok (.iload_n 1, 1) := by decide +kernel
theorem dX11_layNet_128 : decode cX11_layNet 128 = .ok (.aload_n 0, 1) := by decide +kernel
theorem dX11_layNet_129 : decode cX11_layNet 129 = .ok (.getfield 91, 3) := by decide +kernel
theorem dX11_layNet_132 : decode cX11_layNet 132 = .ok (.if_icmp .ge 28, 3) := by decide +kernel
theorem dX11_layNet_135 : decode cX11_layNet 135 = .ok (.aload_n 0, 1) := by decide +kernel
theorem dX11_layNet_136 : decode cX11_layNet 136 = .ok (.getfield 40, 3) := by decide +kernel
theorem dX11_layNet_139 : decode cX11_layNet 139 = .ok (.iload_n 1, 1) := by decide +kernel
theorem dX11_layNet_140 : decode cX11_layNet 140 = .ok (.aload_n 0, 1) := by decide +kernel
theorem dX11_layNet_141 : decode cX11_layNet 141 = .ok (.getfield 34, 3) := by decide +kernel
theorem dX11_layNet_144 : decode cX11_layNet 144 = .ok (.iload_n 1, 1) := by decide +kernel
theorem dX11_layNet_145 : decode cX11_layNet 145 = .ok (.iaload, 1) := by decide +kernel
theorem dX11_layNet_146 : decode cX11_layNet 146 = .ok (.aload_n 0, 1) := by decide +kernel
theorem dX11_layNet_147 : decode cX11_layNet 147 = .ok (.getfield 37, 3) := by decide +kernel
theorem dX11_layNet_150 : decode cX11_layNet 150 = .ok (.iload_n 1, 1) := by decide +kernel
theorem dX11_layNet_151 : decode cX11_layNet 151 = .ok (.iaload, 1) := by decide +kernel
theorem dX11_layNet_152 : decode cX11_layNet 152 = .ok (.ior, 1) := by decide +kernel
theorem dX11_layNet_153 : decode cX11_layNet 153 = .ok (.iastore, 1) := by decide +kernel
theorem dX11_layNet_154 : decode cX11_layNet 154 = .ok (.iinc 1 1, 3) := by decide +kernel
theorem dX11_layNet_157 : decode cX11_layNet 157 = .ok (.goto (-30), 3) := by decide +kernel
theorem dX11_layNet_160 : decode cX11_layNet 160 = .ok (.iconst 0, 1) := by decide +kernel
theorem dX11_layNet_161 : decode cX11_layNet 161 = .ok (.istore_n 1, 1) := by decide +kernel
theorem dX11_layNet_162 : decode cX11_layNet 162 = .ok (.iload_n 1, 1) := by decide +kernel
theorem dX11_layNet_163 : decode cX11_layNet 163 = .ok (.aload_n 0, 1) := by decide +kernel
theorem dX11_layNet_164 : decode cX11_layNet 164 = .ok (.getfield 91, 3) := by decide +kernel
theorem dX11_layNet_167 : decode cX11_layNet 167 = .ok (.if_icmp .ge 58, 3) := by decide +kernel
theorem dX11_layNet_170 : decode cX11_layNet 170 = .ok (.iconst 0, 1) := by decide +kernel
theorem dX11_layNet_171 : decode cX11_layNet 171 = .ok (.istore_n 2, 1) := by decide +kernel
theorem dX11_layNet_172 : decode cX11_layNet 172 = .ok (.iload_n 2, 1) := by decide +kernel
theorem dX11_layNet_173 : decode cX11_layNet 173 = .ok (.aload_n 0, 1) := by decide +kernel
theorem dX11_layNet_174 : decode cX11_layNet 174 = .ok (.getfield 91, 3) := by decide +kernel
theorem dX11_layNet_177 : decode cX11_layNet 177 = .ok (.if_icmp .ge 42, 3) := by decide +kernel
theorem dX11_layNet_180 : decode cX11_layNet 180 = .ok (.aload_n 0, 1) := by decide +kernel
theorem dX11_layNet_181 : decode cX11_layNet 181 = .ok (.getfield 40, 3) := by decide +kernel
theorem dX11_layNet_184 : decode cX11_layNet 184 = .ok (.iload_n 2, 1) := by decide +kernel
theorem dX11_layNet_185 : decode cX11_layNet 185 = .ok (.dup2, 1) := by decide +kernel
theorem dX11_layNet_186 : decode cX11_layNet 186 = .ok (.iaload, 1) := by decide +kernel
theorem dX11_layNet_187 : decode cX11_layNet 187 = .ok (.aload_n 0, 1) := by decide +kernel
theorem dX11_layNet_188 : decode cX11_layNet 188 = .ok (.getfield 40, 3) := by decide +kernel
theorem dX11_layNet_191 : decode cX11_layNet 191 = .ok (.iload_n 2, 1) := by decide +kernel
theorem dX11_layNet_192 : decode cX11_layNet 192 = .ok (.iaload, 1) := by decide +kernel
theorem dX11_layNet_193 : decode cX11_layNet 193 = .ok (.iload_n 1, 1) := by decide +kernel
theorem dX11_layNet_194 : decode cX11_layNet 194 = .ok (.ishr, 1) := by decide +kernel
theorem dX11_layNet_195 : decode cX11_layNet 195 = .ok (.iconst 1, 1) := by decide +kernel
theorem dX11_layNet_196 : decode cX11_layNet 196 = .ok (.iand, 1) := by decide +kernel
theorem dX11_layNet_197 : decode cX11_layNet 197 = .ok (.iconst 1, 1) := by decide +kernel
theorem dX11_layNet_198 : decode cX11_layNet 198 = .ok (.if_icmp .ne 12, 3) := by decide +kernel
theorem dX11_layNet_201 : decode cX11_layNet 201 = .ok (.aload_n 0, 1) := by decide +kernel
theorem dX11_layNet_202 : decode cX11_layNet 202 = .ok (.getfield 40, 3) := by decide +kernel
theorem dX11_layNet_205 : decode cX11_layNet 205 = .ok (.iload_n 1, 1) := by decide +kernel
theorem dX11_layNet_206 : decode cX11_layNet 206 = .ok (.iaload, 1) := by decide +kernel
theorem dX11_layNet_207 : decode cX11_layNet 207 = .ok (.goto 4, 3) := by decide +kernel
theorem dX11_layNet_210 : decode cX11_layNet 210 = .ok (.iconst 0, 1) := by decide +kernel
theorem dX11_layNet_211 : decode cX11_layNet 211 = .ok (.ior, 1) := by decide +kernel
theorem dX11_layNet_212 : decode cX11_layNet 212 = .ok (.iastore, 1) := by decide +kernel
theorem dX11_layNet_213 : decode cX11_layNet 213 = .ok (.iinc 2 1, 3) := by decide +kernel
theorem dX11_layNet_216 : decode cX11_layNet 216 = .ok (.goto (-44), 3) := by decide +kernel
theorem dX11_layNet_219 : decode cX11_layNet 219 = .ok (.iinc 1 1, 3) := by decide +kernel
theorem dX11_layNet_222 : decode cX11_layNet 222 = .ok (.goto (-60), 3) := by decide +kernel
theorem dX11_layNet_225 : decode cX11_layNet 225 = .ok (.iconst 0, 1) := by decide +kernel
theorem dX11_layNet_226 : decode cX11_layNet 226 = .ok (.istore_n 1, 1) := by decide +kernel
theorem dX11_layNet_227 : decode cX11_layNet 227 = .ok (.iload_n 1, 1) := by decide +kernel
theorem dX11_layNet_228 : decode cX11_layNet 228 = .ok (.aload_n 0, 1) := by decide +kernel
theorem dX11_layNet_229 : decode cX11_layNet 229 = .ok (.getfield 91, 3) := by decide +kernel
theorem dX11_layNet_232 : decode cX11_layNet 232 = .ok (.if_icmp .ge 78, 3) := by decide +kernel
theorem dX11_layNet_235 : decode cX11_layNet 235 = .ok (.aload_n 0, 1) := by decide +kernel
theorem dX11_layNet_236 : decode cX11_layNet 236 = .ok (.getfield 43, 3) := by decide +kernel
theorem dX11_layNet_239 : decode cX11_layNet 239 = .ok (.iload_n 1, 1) := by decide +kernel
theorem dX11_layNet_240 : decode cX11_layNet 240 = .ok (.iconst 1, 1) := by decide +kernel
theorem dX11_layNet_241 : decode cX11_layNet 241 = .ok (.iload_n 1, 1) := by decide +kernel
theorem dX11_layNet_242 : decode cX11_layNet 242 = .ok (.ishl, 1) := by decide +kernel
theorem dX11_layNet_243 : decode cX11_layNet 243 = .ok (.iastore, 1) := by decide +kernel
theorem dX11_layNet_244 : decode cX11_layNet 244 = .ok (.iconst 0, 1) := by decide +kernel
theorem dX11_layNet_245 : decode cX11_layNet 245 = .ok (.istore_n 2, 1) := by decide +kernel
theorem dX11_layNet_246 : decode cX11_layNet 246 = .ok (.iload_n 2, 1) := by decide +kernel
theorem dX11_layNet_247 : decode cX11_layNet 247 = .ok (.aload_n 0, 1) := by decide +kernel
theorem dX11_layNet_248 : decode cX11_layNet 248 = .ok (.getfield 91, 3) := by decide +kernel
theorem dX11_layNet_251 : decode cX11_layNet 251 = .ok (.if_icmp .ge 53, 3) := by decide +kernel
theorem dX11_layNet_254 : decode cX11_layNet 254 = .ok (.aload_n 0, 1) := by decide +kernel
theorem dX11_layNet_255 : decode cX11_layNet 255 = .ok (.getfield 43, 3) := by decide +kernel
theorem dX11_layNet_258 : decode cX11_layNet 258 = .ok (.iload_n 1, 1) := by decide +kernel
theorem dX11_layNet_259 : decode cX11_layNet 259 = .ok (.dup2, 1) := by decide +kernel
theorem dX11_layNet_260 : decode cX11_layNet 260 = .ok (.iaload, 1) := by decide +kernel
theorem dX11_layNet_261 : decode cX11_layNet 261 = .ok (.aload_n 0, 1) := by decide +kernel
theorem dX11_layNet_262 : decode cX11_layNet 262 = .ok (.getfield 40, 3) := by decide +kernel
theorem dX11_layNet_265 : decode cX11_layNet 265 = .ok (.iload_n 1, 1) := by decide +kernel
theorem dX11_layNet_266 : decode cX11_layNet 266 = .ok (.iaload, 1) := by decide +kernel
theorem dX11_layNet_267 : decode cX11_layNet 267 = .ok (.iload_n 2, 1) := by decide +kernel
theorem dX11_layNet_268 : decode cX11_layNet 268 = .ok (.ishr, 1) := by decide +kernel
theorem dX11_layNet_269 : decode cX11_layNet 269 = .ok (.iconst 1, 1) := by decide +kernel
theorem dX11_layNet_270 : decode cX11_layNet 270 = .ok (.iand, 1) := by decide +kernel
theorem dX11_layNet_271 : decode cX11_layNet 271 = .ok (.iconst 1, 1) := by decide +kernel
theorem dX11_layNet_272 : decode cX11_layNet 272 = .ok (.if_icmp .ne 23, 3) := by decide +kernel
theorem dX11_layNet_275 : decode cX11_layNet 275 = .ok (.aload_n 0, 1) := by decide +kernel
theorem dX11_layNet_276 : decode cX11_layNet 276 = .ok (.getfield 40, 3) := by decide +kernel
theorem dX11_layNet_279 : decode cX11_layNet 279 = .ok (.iload_n 2, 1) := by decide +kernel
theorem dX11_layNet_280 : decode cX11_layNet 280 = .ok (.iaload, 1) := by decide +kernel
theorem dX11_layNet_281 : decode cX11_layNet 281 = .ok (.iload_n 1, 1) := by decide +kernel
theorem dX11_layNet_282 : decode cX11_layNet 282 = .ok (.ishr, 1) := by decide +kernel
theorem dX11_layNet_283 : decode cX11_layNet 283 = .ok (.iconst 1, 1) := by decide +kernel
theorem dX11_layNet_284 : decode cX11_layNet 284 = .ok (.iand, 1) := by decide +kernel
theorem dX11_layNet_285 : decode cX11_layNet 285 = .ok (.iconst 1, 1) := by decide +kernel
theorem dX11_layNet_286 : decode cX11_layNet 286 = .ok (.if_icmp .ne 9, 3) := by decide +kernel
theorem dX11_layNet_289 : decode cX11_layNet 289 = .ok (.iconst 1, 1) := by decide +kernel
theorem dX11_layNet_290 : decode cX11_layNet 290 = .ok (.iload_n 2, 1) := by decide +kernel
theorem dX11_layNet_291 : decode cX11_layNet 291 = .ok (.ishl, 1) := by decide +kernel
theorem dX11_layNet_292 : decode cX11_layNet 292 = .ok (.goto 4, 3) := by decide +kernel
theorem dX11_layNet_295 : decode cX11_layNet 295 = .ok (.iconst 0, 1) := by decide +kernel
theorem dX11_layNet_296 : decode cX11_layNet 296 = .ok (.ior, 1) := by decide +kernel
theorem dX11_layNet_297 : decode cX11_layNet 297 = .ok (.iastore, 1) := by decide +kernel
theorem dX11_layNet_298 : decode cX11_layNet 298 = .ok (.iinc 2 1, 3) := by decide +kernel
theorem dX11_layNet_301 : decode cX11_layNet 301 = .ok (.goto (-55), 3) := by decide +kernel
theorem dX11_layNet_304 : decode cX11_layNet 304 = .ok (.iinc 1 1, 3) := by decide +kernel
theorem dX11_layNet_307 : decode cX11_layNet 307 = .ok (.goto (-80), 3) := by decide +kernel
theorem dX11_layNet_310 : decode cX11_layNet 310 = .ok (.return_, 1) := by decide +kernel
theorem dX11_isRing_0 : decode cX11_isRing 0 = .ok (.iconst 0, 1) := by decide +kernel
theorem dX11_isRing_1 : decode cX11_isRing 1 = .ok (.istore_n 2, 1) := by decide +kernel
theorem dX11_isRing_2 : decode cX11_isRing 2 = .ok (.iconst 0, 1) := by decide +kernel
theorem dX11_isRing_3 : decode cX11_isRing 3 = .ok (.istore_n 3, 1) := by decide +kernel
theorem dX11_isRing_4 : decode cX11_isRing 4 = .ok (.iload_n 3, 1) := by decide +kernel
theorem dX11_isRing_5 : decode cX11_isRing 5 = .ok (.aload_n 0, 1) := by decide +kernel
theorem dX11_isRing_6 : decode cX11_isRing 6 = .ok (.getfield 91, 3) := by decide +kernel
theorem dX11_isRing_9 : decode cX11_isRing 9 = .ok (.if_icmp .ge 49, 3) := by decide +kernel
theorem dX11_isRing_12 : decode cX11_isRing 12 = .ok (.iload_n 2, 1) := by decide +kernel
theorem dX11_isRing_13 : decode cX11_isRing 13 = .ok (.ifCond .ne 33, 3) := by decide +kernel
theorem dX11_isRing_16 : decode cX11_isRing 16 = .ok (.aload_n 0, 1) := by decide +kernel
theorem dX11_isRing_17 : decode cX11_isRing 17 = .ok (.getfield 43, 3) := by decide +kernel
theorem dX11_isRing_20 : decode cX11_isRing 20 = .ok (.iload_n 1, 1) := by decide +kernel
theorem dX11_isRing_21 : decode cX11_isRing 21 = .ok (.iaload, 1) := by decide +kernel
theorem dX11_isRing_22 : decode cX11_isRing 22 = .ok (.iload_n 3, 1) := by decide +kernel
theorem dX11_isRing_23 : decode cX11_isRing 23 = .ok (.ishr, 1) := by decide +kernel
theorem dX11_isRing_24 : decode cX11_isRing 24 = .ok (.iconst 1, 1) := by decide +kernel
theorem dX11_isRing_25 : decode cX11_isRing 25 = .ok (.iand, 1) := by decide +kernel
theorem dX11_isRing_26 : decode cX11_isRing 26 = .ok (.iconst 1, 1) := by decide +kernel
theorem dX11_isRing_27 : decode cX11_isRing 27 = .ok (.if_icmp .ne 23, 3) := by decide +kernel
theorem dX11_isRing_30 : decode cX11_isRing 30 = .ok (.aload_n 0, 1) := by decide +kernel
theorem dX11_isRing_31 : decode cX11_isRing 31 = .ok (.getfield 34, 3) := by decide +kernel
theorem dX11_isRing_34 : decode cX11_isRing 34 = .ok (.iload_n 3, 1) := by decide +kernel
theorem dX11_isRing_35 : decode cX11_isRing 35 = .ok (.iaload, 1) := by decide +kernel
theorem dX11_isRing_36 : decode cX11_isRing 36 = .ok (.aload_n 0, 1) := by decide +kernel
theorem dX11_isRing_37 : decode cX11_isRing 37 = .ok (.getfield 43, 3) := by decide +kernel
theorem dX11_isRing_40 : decode cX11_isRing 40 = .ok (.iload_n 1, 1) := by decide +kernel
theorem dX11_isRing_41 : decode cX11_isRing 41 = .ok (.iaload, 1) := by decide +kernel
theorem dX11_isRing_42 : decode cX11_isRing 42 = .ok (.iand, 1) := by decide +kernel
theorem dX11_isRing_43 : decode cX11_isRing 43 = .ok (.ifCond .eq 7, 3) := by decide +kernel
theorem dX11_isRing_46 : decode cX11_isRing 46 = .ok (.iconst 1, 1) := by decide +kernel
theorem dX11_isRing_47 : decode cX11_isRing 47 = .ok (.goto 4, 3) := by decide +kernel
theorem dX11_isRing_50 : decode cX11_isRing 50 = .ok (.iconst 0, 1) := by decide +kernel
theorem dX11_isRing_51 : decode cX11_isRing 51 = .ok (.istore_n 2, 1) := by decide +kernel
theorem dX11_isRing_52 : decode cX11_isRing 52 = .ok (.iinc 3 1, 3) := by decide +kernel
theorem dX11_isRing_55 : decode cX11_isRing 55 = .ok (.goto (-51), 3) := by decide +kernel
theorem dX11_isRing_58 : decode cX11_isRing 58 = .ok (.iload_n 2, 1) := by decide +kernel
theorem dX11_isRing_59 : decode cX11_isRing 59 = .ok (.ireturn, 1) := by decide +kernel
theorem dX11_leastOf_0 : decode cX11_leastOf 0 = .ok (.iconst 0, 1) := by decide +kernel
theorem dX11_leastOf_1 : decode cX11_leastOf 1 = .ok (.istore_n 1, 1) := by decide +kernel
theorem dX11_leastOf_2 : decode cX11_leastOf 2 = .ok (.iload_n 0, 1) := by decide +kernel
theorem dX11_leastOf_3 : decode cX11_leastOf 3 = .ok (.iload_n 1, 1) := by decide +kernel
theorem dX11_leastOf_4 : decode cX11_leastOf 4 = .ok (.ishr, 1) := by decide +kernel
theorem dX11_leastOf_5 : decode cX11_leastOf 5 = .ok (.iconst 1, 1) := by decide +kernel
theorem dX11_leastOf_6 : decode cX11_leastOf 6 = .ok (.iand, 1) := by decide +kernel
theorem dX11_leastOf_7 : decode cX11_leastOf 7 = .ok (.ifCond .ne 9, 3) := by decide +kernel
theorem dX11_leastOf_10 : decode cX11_leastOf 10 = .ok (.iinc 1 1, 3) := by decide +kernel
theorem dX11_leastOf_13 : decode cX11_leastOf 13 = .ok (.goto (-11), 3) := by decide +kernel
theorem dX11_leastOf_16 : decode cX11_leastOf 16 = .ok (.iload_n 1, 1) := by decide +kernel
theorem dX11_leastOf_17 : decode cX11_leastOf 17 = .ok (.ireturn, 1) := by decide +kernel
theorem dX11_sizeOf_0 : decode cX11_sizeOf 0 = .ok (.iconst 0, 1) := by decide +kernel
theorem dX11_sizeOf_1 : decode cX11_sizeOf 1 = .ok (.istore_n 1, 1) := by decide +kernel
theorem dX11_sizeOf_2 : decode cX11_sizeOf 2 = .ok (.iconst 0, 1) := by decide +kernel
theorem dX11_sizeOf_3 : decode cX11_sizeOf 3 = .ok (.istore_n 2, 1) := by decide +kernel
theorem dX11_sizeOf_4 : decode cX11_sizeOf 4 = .ok (.iload_n 2, 1) := by decide +kernel
theorem dX11_sizeOf_5 : decode cX11_sizeOf 5 = .ok (.bipush 20, 2) := by decide +kernel
theorem dX11_sizeOf_7 : decode cX11_sizeOf 7 = .ok (.if_icmp .ge 17, 3) := by decide +kernel
theorem dX11_sizeOf_10 : decode cX11_sizeOf 10 = .ok (.iload_n 1, 1) := by decide +kernel
theorem dX11_sizeOf_11 : decode cX11_sizeOf 11 = .ok (.iload_n 0, 1) := by decide +kernel
theorem dX11_sizeOf_12 : decode cX11_sizeOf 12 = .ok (.iload_n 2, 1) := by decide +kernel
theorem dX11_sizeOf_13 : decode cX11_sizeOf 13 = .ok (.ishr, 1) := by decide +kernel
theorem dX11_sizeOf_14 : decode cX11_sizeOf 14 = .ok (.iconst 1, 1) := by decide +kernel
theorem dX11_sizeOf_15 : decode cX11_sizeOf 15 = .ok (.iand, 1) := by decide +kernel
theorem dX11_sizeOf_16 : decode cX11_sizeOf 16 = .ok (.iadd, 1) := by decide +kernel
theorem dX11_sizeOf_17 : decode cX11_sizeOf 17 = .ok (.istore_n 1, 1) := by decide +kernel
theorem dX11_sizeOf_18 : decode cX11_sizeOf 18 = .ok (.iinc 2 1, 3) := by decide +kernel
theorem dX11_sizeOf_21 : decode cX11_sizeOf 21 = .ok (.goto (-17), 3) := by decide +kernel
theorem dX11_sizeOf_24 : decode cX11_sizeOf 24 = .ok (.iload_n 1, 1) := by decide +kernel
theorem dX11_sizeOf_25 : decode cX11_sizeOf 25 = .ok (.ireturn, 1) := by decide +kernel
theorem dX11_about_0 : decode cX11_about 0 = .ok (.aload_n 0, 1) := by decide +kernel
theorem dX11_about_1 : decode cX11_about 1 = .ok (.iload_n 1, 1) := by decide +kernel
theorem dX11_about_2 : decode cX11_about 2 = .ok (.invokevirtual 103, 3) := by decide +kernel
theorem dX11_about_5 : decode cX11_about 5 = .ok (.ifCond .eq 15, 3) := by decide +kernel
theorem dX11_about_8 : decode cX11_about 8 = .ok (.iload_n 2, 1) := by decide +kernel
theorem dX11_about_9 : decode cX11_about 9 = .ok (.i2l, 1) := by decide +kernel
theorem dX11_about_10 : decode cX11_about 10 = .ok (.lconst 0, 1) := by decide +kernel
theorem dX11_about_11 : decode cX11_about 11 = .ok (.ldc2_w 131, 3) := by decide +kernel
theorem dX11_about_14 : decode cX11_about 14 = .ok (.invokestatic 95, 3) := by decide +kernel
theorem dX11_about_17 : decode cX11_about 17 = .ok (.ifCond .ne 5, 3) := by decide +kernel
theorem dX11_about_20 : decode cX11_about 20 = .ok (.iconst (-1), 1) := by decide +kernel
theorem dX11_about_21 : decode cX11_about 21 = .ok (.ireturn, 1) := by decide +kernel
theorem dX11_about_22 : decode cX11_about 22 = .ok (.aload_n 0, 1) := by decide +kernel
theorem dX11_about_23 : decode cX11_about 23 = .ok (.invokevirtual 133, 3) := by decide +kernel
theorem dX11_about_26 : decode cX11_about 26 = .ok (.iconst 0, 1) := by decide +kernel
theorem dX11_about_27 : decode cX11_about 27 = .ok (.istore_n 3, 1) := by decide +kernel
theorem dX11_about_28 : decode cX11_about 28 = .ok (.iconst 0, 1) := by decide +kernel
theorem dX11_about_29 : decode cX11_about 29 = .ok (.istore 4, 2) := by decide +kernel
theorem dX11_about_31 : decode cX11_about 31 = .ok (.iload 4, 2) := by decide +kernel
theorem dX11_about_33 : decode cX11_about 33 = .ok (.aload_n 0, 1) := by decide +kernel
theorem dX11_about_34 : decode cX11_about 34 = .ok (.getfield 91, 3) := by decide +kernel
theorem dX11_about_37 : decode cX11_about 37 = .ok (.if_icmp .ge 23, 3) := by decide +kernel
theorem dX11_about_40 : decode cX11_about 40 = .ok (.iload_n 3, 1) := by decide +kernel
theorem dX11_about_41 : decode cX11_about 41 = .ok (.aload_n 0, 1) := by decide +kernel
theorem dX11_about_42 : decode cX11_about 42 = .ok (.getfield 40, 3) := by decide +kernel
theorem dX11_about_45 : decode cX11_about 45 = .ok (.iload 4, 2) := by decide +kernel
theorem dX11_about_47 : decode cX11_about 47 = .ok (.iaload, 1) := by decide +kernel
theorem dX11_about_48 : decode cX11_about 48 = .ok (.iload_n 1, 1) := by decide +kernel
theorem dX11_about_49 : decode cX11_about 49 = .ok (.ishr, 1) := by decide +kernel
theorem dX11_about_50 : decode cX11_about 50 = .ok (.iconst 1, 1) := by decide +kernel
theorem dX11_about_51 : decode cX11_about 51 = .ok (.iand, 1) := by decide +kernel
theorem dX11_about_52 : decode cX11_about 52 = .ok (.iadd, 1) := by decide +kernel
theorem dX11_about_53 : decode cX11_about 53 = .ok (.istore_n 3, 1) := by decide +kernel
theorem dX11_about_54 : decode cX11_about 54 = .ok (.iinc 4 1, 3) := by decide +kernel
theorem dX11_about_57 : decode cX11_about 57 = .ok (.goto (-26), 3) := by decide +kernel
theorem dX11_about_60 : decode cX11_about 60 = .ok (.iload_n 2, 1) := by decide +kernel
theorem dX11_about_61 : decode cX11_about 61 = .ok (.ifCond .ne 12, 3) := by decide +kernel
theorem dX11_about_64 : decode cX11_about 64 = .ok (.aload_n 0, 1) := by decide +kernel
theorem dX11_about_65 : decode cX11_about 65 = .ok (.getfield 7, 3) := by decide +kernel
theorem dX11_about_68 : decode cX11_about 68 = .ok (.iload_n 1, 1) := by decide +kernel
theorem dX11_about_69 : decode cX11_about 69 = .ok (.iaload, 1) := by decide +kernel
theorem dX11_about_70 : decode cX11_about 70 = .ok (.goto 73, 3) := by decide +kernel
theorem dX11_about_73 : decode cX11_about 73 = .ok (.iload_n 2, 1) := by decide +kernel
theorem dX11_about_74 : decode cX11_about 74 = .ok (.iconst 1, 1) := by decide +kernel
theorem dX11_about_75 : decode cX11_about 75 = .ok (.if_icmp .ne 12, 3) := by decide +kernel
theorem dX11_about_78 : decode cX11_about 78 = .ok (.aload_n 0, 1) := by decide +kernel
theorem dX11_about_79 : decode cX11_about 79 = .ok (.getfield 13, 3) := by decide +kernel
theorem dX11_about_82 : decode cX11_about 82 = .ok (.iload_n 1, 1) := by decide +kernel
theorem dX11_about_83 : decode cX11_about 83 = .ok (.iaload, 1) := by decide +kernel
theorem dX11_about_84 : decode cX11_about 84 = .ok (.goto 59, 3) := by decide +kernel
theorem dX11_about_87 : decode cX11_about 87 = .ok (.iload_n 2, 1) := by decide +kernel
theorem dX11_about_88 : decode cX11_about 88 = .ok (.iconst 2, 1) := by decide +kernel
theorem dX11_about_89 : decode cX11_about 89 = .ok (.if_icmp .ne 19, 3) := by decide +kernel
theorem dX11_about_92 : decode cX11_about 92 = .ok (.aload_n 0, 1) := by decide +kernel
theorem dX11_about_93 : decode cX11_about 93 = .ok (.iload_n 1, 1) := by decide +kernel
theorem dX11_about_94 : decode cX11_about 94 = .ok (.invokevirtual 136, 3) := by decide +kernel
theorem dX11_about_97 : decode cX11_about 97 = .ok (.ifCond .eq 7, 3) := by decide +kernel
theorem dX11_about_100 : decode cX11_about 100 = .ok (.iconst 1, 1) := by decide +kernel
theorem dX11_about_101 : decode cX11_about 101 = .ok (.goto 42, 3) := by decide +kernel
theorem dX11_about_104 : decode cX11_about 104 = .ok (.iconst 0, 1) := by decide +kernel
theorem dX11_about_105 : decode cX11_about 105 = .ok (.goto 38, 3) := by decide +kernel
theorem dX11_about_108 : decode cX11_about 108 = .ok (.iload_n 2, 1) := by decide +kernel
theorem dX11_about_109 : decode cX11_about 109 = .ok (.iconst 3, 1) := by decide +kernel
theorem dX11_about_110 : decode cX11_about 110 = .ok (.if_icmp .ne 15, 3) := by decide +kernel
theorem dX11_about_113 : decode cX11_about 113 = .ok (.aload_n 0, 1) := by decide +kernel
theorem dX11_about_114 : decode cX11_about 114 = .ok (.getfield 43, 3) := by decide +kernel
theorem dX11_about_117 : decode cX11_about 117 = .ok (.iload_n 1, 1) := by decide +kernel
theorem dX11_about_118 : decode cX11_about 118 = .ok (.iaload, 1) := by decide +kernel
theorem dX11_about_119 : decode cX11_about 119 = .ok (.invokestatic 139, 3) := by decide +kernel
theorem dX11_about_122 : decode cX11_about 122 = .ok (.goto 21, 3) := by decide +kernel
theorem dX11_about_125 : decode cX11_about 125 = .ok (.iload_n 2, 1) := by decide +kernel
theorem dX11_about_126 : decode cX11_about 126 = .ok (.iconst 4, 1) := by decide +kernel
theorem dX11_about_127 : decode cX11_about 127 = .ok (.if_icmp .ne 15, 3) := by decide +kernel
theorem dX11_about_130 : decode cX11_about 130 = .ok (.aload_n 0, 1) := by decide +kernel
theorem dX11_about_131 : decode cX11_about 131 = .ok (.getfield 40, 3) := by decide +kernel
theorem dX11_about_134 : decode cX11_about 134 = .ok (.iload_n 1, 1) := by decide +kernel
theorem dX11_about_135 : decode cX11_about 135 = .ok (.iaload, 1) := by decide +kernel
theorem dX11_about_136 : decode cX11_about 136 = .ok (.invokestatic 143, 3) := by decide +kernel
theorem dX11_about_139 : decode cX11_about 139 = .ok (.goto 4, 3) := by decide +kernel
theorem dX11_about_142 : decode cX11_about 142 = .ok (.iload_n 3, 1) := by decide +kernel
theorem dX11_about_143 : decode cX11_about 143 = .ok (.ireturn, 1) := by decide +kernel
theorem dX11_greatest_0 : decode cX11_greatest 0 = .ok (.iconst 0, 1) := by decide +kernel
theorem dX11_greatest_1 : decode cX11_greatest 1 = .ok (.istore_n 2, 1) := by decide +kernel
theorem dX11_greatest_2 : decode cX11_greatest 2 = .ok (.iconst 1, 1) := by decide +kernel
theorem dX11_greatest_3 : decode cX11_greatest 3 = .ok (.istore_n 3, 1) := by decide +kernel
theorem dX11_greatest_4 : decode cX11_greatest 4 = .ok (.iconst 1, 1) := by decide +kernel
theorem dX11_greatest_5 : decode cX11_greatest 5 = .ok (.istore 4, 2) := by decide +kernel
theorem dX11_greatest_7 : decode cX11_greatest 7 = .ok (.iconst 0, 1) := by decide +kernel
theorem dX11_greatest_8 : decode cX11_greatest 8 = .ok (.istore 5, 2) := by decide +kernel
theorem dX11_greatest_10 : decode cX11_greatest 10 = .ok (.iload 5, 2) := by decide +kernel
theorem dX11_greatest_12 : decode cX11_greatest 12 = .ok (.aload_n 0, 1) := by decide +kernel
theorem dX11_greatest_13 : decode cX11_greatest 13 = .ok (.getfield 91, 3) := by decide +kernel
theorem dX11_greatest_16 : decode cX11_greatest 16 = .ok (.if_icmp .ge 88, 3) := by decide +kernel
theorem dX11_greatest_19 : decode cX11_greatest 19 = .ok (.iload_n 1, 1) := by decide +kernel
theorem dX11_greatest_20 : decode cX11_greatest 20 = .ok (.iload 5, 2) := by decide +kernel
theorem dX11_greatest_22 : decode cX11_greatest 22 = .ok (.ishr, 1) := by decide +kernel
theorem dX11_greatest_23 : decode cX11_greatest 23 = .ok (.iconst 1, 1) := by decide +kernel
theorem dX11_greatest_24 : decode cX11_greatest 24 = .ok (.iand, 1) := by decide +kernel
theorem dX11_greatest_25 : decode cX11_greatest 25 = .ok (.iconst 1, 1) := by decide +kernel
theorem dX11_greatest_26 : decode cX11_greatest 26 = .ok (.if_icmp .ne 72, 3) := by decide +kernel
theorem dX11_greatest_29 : decode cX11_greatest 29 = .ok (.iload_n 3, 1) := by decide +kernel
theorem dX11_greatest_30 : decode cX11_greatest 30 = .ok (.ifCond .eq 19, 3) := by decide +kernel
theorem dX11_greatest_33 : decode cX11_greatest 33 = .ok (.aload_n 0, 1) := by decide +kernel
theorem dX11_greatest_34 : decode cX11_greatest 34 = .ok (.getfield 46, 3) := by decide +kernel
theorem dX11_greatest_37 : decode cX11_greatest 37 = .ok (.iload 5, 2) := by decide +kernel
theorem dX11_greatest_39 : decode cX11_greatest 39 = .ok (.iaload, 1) := by decide +kernel
theorem dX11_greatest_40 : decode cX11_greatest 40 = .ok (.bipush (-4), 2) := by decide +kernel
theorem dX11_greatest_42 : decode cX11_greatest 42 = .ok (.if_icmp .eq 7, 3) := by decide +kernel
theorem dX11_greatest_45 : decode cX11_greatest 45 = .ok (.iconst 1, 1) := by decide +kernel
theorem dX11_greatest_46 : decode cX11_greatest 46 = .ok (.goto 4, 3) := by decide +kernel
theorem dX11_greatest_49 : decode cX11_greatest 49 = .ok (.iconst 0, 1) := by decide +kernel
theorem dX11_greatest_50 : decode cX11_greatest 50 = .ok (.istore_n 3, 1) := by decide +kernel
theorem dX11_greatest_51 : decode cX11_greatest 51 = .ok (.iload 4, 2) := by decide +kernel
theorem dX11_greatest_53 : decode cX11_greatest 53 = .ok (.ifCond .eq 19, 3) := by decide +kernel
theorem dX11_greatest_56 : decode cX11_greatest 56 = .ok (.aload_n 0, 1) := by decide +kernel
theorem dX11_greatest_57 : decode cX11_greatest 57 = .ok (.getfield 46, 3) := by decide +kernel
theorem dX11_greatest_60 : decode cX11_greatest 60 = .ok (.iload 5, 2) := by decide +kernel
theorem dX11_greatest_62 : decode cX11_greatest 62 = .ok (.iaload, 1) := by decide +kernel
theorem dX11_greatest_63 : decode cX11_greatest 63 = .ok (.bipush (-5), 2) := by decide +kernel
theorem dX11_greatest_65 : decode cX11_greatest 65 = .ok (.if_icmp .eq 7, 3) := by decide +kernel
theorem dX11_greatest_68 : decode cX11_greatest 68 = .ok (.iconst 1, 1) := by decide +kernel
theorem dX11_greatest_69 : decode cX11_greatest 69 = .ok (.goto 4, 3) := by decide +kernel
theorem dX11_greatest_72 : decode cX11_greatest 72 = .ok (.iconst 0, 1) := by decide +kernel
theorem dX11_greatest_73 : decode cX11_greatest 73 = .ok (.istore 4, 2) := by decide +kernel
theorem dX11_greatest_75 : decode cX11_greatest 75 = .ok (.aload_n 0, 1) := by decide +kernel
theorem dX11_greatest_76 : decode cX11_greatest 76 = .ok (.getfield 46, 3) := by decide +kernel
theorem dX11_greatest_79 : decode cX11_greatest 79 = .ok (.iload 5, 2) := by decide +kernel
theorem dX11_greatest_81 : decode cX11_greatest 81 = .ok (.iaload, 1) := by decide +kernel
theorem dX11_greatest_82 : decode cX11_greatest 82 = .ok (.iload_n 2, 1) := by decide +kernel
theorem dX11_greatest_83 : decode cX11_greatest 83 = .ok (.if_icmp .le 13, 3) := by decide +kernel
theorem dX11_greatest_86 : decode cX11_greatest 86 = .ok (.aload_n 0, 1) := by decide +kernel
theorem dX11_greatest_87 : decode cX11_greatest 87 = .ok (.getfield 46, 3) := by decide +kernel
theorem dX11_greatest_90 : decode cX11_greatest 90 = .ok (.iload 5, 2) := by decide +kernel
theorem dX11_greatest_92 : decode cX11_greatest 92 = .ok (.iaload, 1) := by decide +kernel
theorem dX11_greatest_93 : decode cX11_greatest 93 = .ok (.goto 4, 3) := by decide +kernel
theorem dX11_greatest_96 : decode cX11_greatest 96 = .ok (.iload_n 2, 1) := by decide +kernel
theorem dX11_greatest_97 : decode cX11_greatest 97 = .ok (.istore_n 2, 1) := by decide +kernel
theorem dX11_greatest_98 : decode cX11_greatest 98 = .ok (.iinc 5 1, 3) := by decide +kernel
theorem dX11_greatest_101 : decode cX11_greatest 101 = .ok (.goto (-91), 3) := by decide +kernel
theorem dX11_greatest_104 : decode cX11_greatest 104 = .ok (.iload_n 3, 1) := by decide +kernel
theorem dX11_greatest_105 : decode cX11_greatest 105 = .ok (.ifCond .ne 8, 3) := by decide +kernel
theorem dX11_greatest_108 : decode cX11_greatest 108 = .ok (.bipush (-4), 2) := by decide +kernel
theorem dX11_greatest_110 : decode cX11_greatest 110 = .ok (.goto 14, 3) := by decide +kernel
theorem dX11_greatest_113 : decode cX11_greatest 113 = .ok (.iload 4, 2) := by decide +kernel
theorem dX11_greatest_115 : decode cX11_greatest 115 = .ok (.ifCond .eq 7, 3) := by decide +kernel
theorem dX11_greatest_118 : decode cX11_greatest 118 = .ok (.iload_n 2, 1) := by decide +kernel
theorem dX11_greatest_119 : decode cX11_greatest 119 = .ok (.goto 5, 3) := by decide +kernel
theorem dX11_greatest_122 : decode cX11_greatest 122 = .ok (.bipush (-5), 2) := by decide +kernel
theorem dX11_greatest_124 : decode cX11_greatest 124 = .ok (.ireturn, 1) := by decide +kernel
theorem dX11_own_0 : decode cX11_own 0 = .ok (.aload_n 0, 1) := by decide +kernel
theorem dX11_own_1 : decode cX11_own 1 = .ok (.aload_n 0, 1) := by decide +kernel
theorem dX11_own_2 : decode cX11_own 2 = .ok (.getfield 34, 3) := by decide +kernel
theorem dX11_own_5 : decode cX11_own 5 = .ok (.iload_n 1, 1) := by decide +kernel
theorem dX11_own_6 : decode cX11_own 6 = .ok (.iaload, 1) := by decide +kernel
theorem dX11_own_7 : decode cX11_own 7 = .ok (.invokevirtual 146, 3) := by decide +kernel
theorem dX11_own_10 : decode cX11_own 10 = .ok (.istore_n 2, 1) := by decide +kernel
theorem dX11_own_11 : decode cX11_own 11 = .ok (.aload_n 0, 1) := by decide +kernel
theorem dX11_own_12 : decode cX11_own 12 = .ok (.aload_n 0, 1) := by decide +kernel
theorem dX11_own_13 : decode cX11_own 13 = .ok (.getfield 37, 3) := by decide +kernel
theorem dX11_own_16 : decode cX11_own 16 = .ok (.iload_n 1, 1) := by decide +kernel
theorem dX11_own_17 : decode cX11_own 17 = .ok (.iaload, 1) := by decide +kernel
theorem dX11_own_18 : decode cX11_own 18 = .ok (.aload_n 0, 1) := by decide +kernel
theorem dX11_own_19 : decode cX11_own 19 = .ok (.getfield 43, 3) := by decide +kernel
theorem dX11_own_22 : decode cX11_own 22 = .ok (.iload_n 1, 1) := by decide +kernel
theorem dX11_own_23 : decode cX11_own 23 = .ok (.iaload, 1) := by decide +kernel
theorem dX11_own_24 : decode cX11_own 24 = .ok (.iconst (-1), 1) := by decide +kernel
theorem dX11_own_25 : decode cX11_own 25 = .ok (.ixor, 1) := by decide +kernel
theorem dX11_own_26 : decode cX11_own 26 = .ok (.iand, 1) := by decide +kernel
theorem dX11_own_27 : decode cX11_own 27 = .ok (.invokevirtual 146, 3) := by decide +kernel
theorem dX11_own_30 : decode cX11_own 30 = .ok (.istore_n 3, 1) := by decide +kernel
theorem dX11_own_31 : decode cX11_own 31 = .ok (.iload_n 2, 1) := by decide +kernel
theorem dX11_own_32 : decode cX11_own 32 = .ok (.bipush (-4), 2) := by decide +kernel
theorem dX11_own_34 : decode cX11_own 34 = .ok (.if_icmp .eq 9, 3) := by decide +kernel
theorem dX11_own_37 : decode cX11_own 37 = .ok (.iload_n 3, 1) := by decide +kernel
theorem dX11_own_38 : decode cX11_own 38 = .ok (.bipush (-4), 2) := by decide +kernel
theorem dX11_own_40 : decode cX11_own 40 = .ok (.if_icmp .ne 6, 3) := by decide +kernel
theorem dX11_own_43 : decode cX11_own 43 = .ok (.bipush (-4), 2) := by decide +kernel
theorem dX11_own_45 : decode cX11_own 45 = .ok (.ireturn, 1) := by decide +kernel
theorem dX11_own_46 : decode cX11_own 46 = .ok (.iload_n 2, 1) := by decide +kernel
theorem dX11_own_47 : decode cX11_own 47 = .ok (.bipush (-5), 2) := by decide +kernel
theorem dX11_own_49 : decode cX11_own 49 = .ok (.if_icmp .eq 9, 3) := by decide +kernel
theorem dX11_own_52 : decode cX11_own 52 = .ok (.iload_n 3, 1) := by decide +kernel
theorem dX11_own_53 : decode cX11_own 53 = .ok (.bipush (-5), 2) := by decide +kernel
theorem dX11_own_55 : decode cX11_own 55 = .ok (.if_icmp .ne 6, 3) := by decide +kernel
theorem dX11_own_58 : decode cX11_own 58 = .ok (.bipush (-5), 2) := by decide +kernel
theorem dX11_own_60 : decode cX11_own 60 = .ok (.ireturn, 1) := by decide +kernel
theorem dX11_own_61 : decode cX11_own 61 = .ok (.aload_n 0, 1) := by decide +kernel
theorem dX11_own_62 : decode cX11_own 62 = .ok (.getfield 7, 3) := by decide +kernel
theorem dX11_own_65 : decode cX11_own 65 = .ok (.iload_n 1, 1) := by decide +kernel
theorem dX11_own_66 : decode cX11_own 66 = .ok (.iaload, 1) := by decide +kernel
theorem dX11_own_67 : decode cX11_own 67 = .ok (.iload_n 2, 1) := by decide +kernel
theorem dX11_own_68 : decode cX11_own 68 = .ok (.iadd, 1) := by decide +kernel
theorem dX11_own_69 : decode cX11_own 69 = .ok (.iload_n 3, 1) := by decide +kernel
theorem dX11_own_70 : decode cX11_own 70 = .ok (.if_icmp .le 14, 3) := by decide +kernel
theorem dX11_own_73 : decode cX11_own 73 = .ok (.aload_n 0, 1) := by decide +kernel
theorem dX11_own_74 : decode cX11_own 74 = .ok (.getfield 7, 3) := by decide +kernel
theorem dX11_own_77 : decode cX11_own 77 = .ok (.iload_n 1, 1) := by decide +kernel
theorem dX11_own_78 : decode cX11_own 78 = .ok (.iaload, 1) := by decide +kernel
theorem dX11_own_79 : decode cX11_own 79 = .ok (.iload_n 2, 1) := by decide +kernel
theorem dX11_own_80 : decode cX11_own 80 = .ok (.iadd, 1) := by decide +kernel
theorem dX11_own_81 : decode cX11_own 81 = .ok (.goto 4, 3) := by decide +kernel
theorem dX11_own_84 : decode cX11_own 84 = .ok (.iload_n 3, 1) := by decide +kernel
theorem dX11_own_85 : decode cX11_own 85 = .ok (.ireturn, 1) := by decide +kernel
theorem dX11_reckoned_0 : decode cX11_reckoned 0 = .ok (.aload_n 0, 1) := by decide +kernel
theorem dX11_reckoned_1 : decode cX11_reckoned 1 = .ok (.getfield 43, 3) := by decide +kernel
theorem dX11_reckoned_4 : decode cX11_reckoned 4 = .ok (.iload_n 1, 1) := by decide +kernel
theorem dX11_reckoned_5 : decode cX11_reckoned 5 = .ok (.iaload, 1) := by decide +kernel
theorem dX11_reckoned_6 : decode cX11_reckoned 6 = .ok (.istore_n 2, 1) := by decide +kernel
theorem dX11_reckoned_7 : decode cX11_reckoned 7 = .ok (.aload_n 0, 1) := by decide +kernel
theorem dX11_reckoned_8 : decode cX11_reckoned 8 = .ok (.iload_n 1, 1) := by decide +kernel
theorem dX11_reckoned_9 : decode cX11_reckoned 9 = .ok (.invokevirtual 136, 3) := by decide +kernel
theorem dX11_reckoned_12 : decode cX11_reckoned 12 = .ok (.ifCond .eq 145, 3) := by decide +kernel
theorem dX11_reckoned_15 : decode cX11_reckoned 15 = .ok (.iconst 0, 1) := by decide +kernel
theorem dX11_reckoned_16 : decode cX11_reckoned 16 = .ok (.istore_n 3, 1) := by decide +kernel
theorem dX11_reckoned_17 : decode cX11_reckoned 17 = .ok (.iconst 0, 1) := by decide +kernel
theorem dX11_reckoned_18 : decode cX11_reckoned 18 = .ok (.istore 4, 2) := by decide +kernel
theorem dX11_reckoned_20 : decode cX11_reckoned 20 = .ok (.iconst 1, 1) := by decide +kernel
theorem dX11_reckoned_21 : decode cX11_reckoned 21 = .ok (.istore 5, 2) := by decide +kernel
theorem dX11_reckoned_23 : decode cX11_reckoned 23 = .ok (.iconst 0, 1) := by decide +kernel
theorem dX11_reckoned_24 : decode cX11_reckoned 24 = .ok (.istore 6, 2) := by decide +kernel
theorem dX11_reckoned_26 : decode cX11_reckoned 26 = .ok (.iload 6, 2) := by decide +kernel
theorem dX11_reckoned_28 : decode cX11_reckoned 28 = .ok (.aload_n 0, 1) := by decide +kernel
theorem dX11_reckoned_29 : decode cX11_reckoned 29 = .ok (.getfield 91, 3) := by decide +kernel
theorem dX11_reckoned_32 : decode cX11_reckoned 32 = .ok (.if_icmp .ge 79, 3) := by decide +kernel
theorem dX11_reckoned_35 : decode cX11_reckoned 35 = .ok (.iload_n 2, 1) := by decide +kernel
theorem dX11_reckoned_36 : decode cX11_reckoned 36 = .ok (.iload 6, 2) := by decide +kernel
theorem dX11_reckoned_38 : decode cX11_reckoned 38 = .ok (.ishr, 1) := by decide +kernel
theorem dX11_reckoned_39 : decode cX11_reckoned 39 = .ok (.iconst 1, 1) := by decide +kernel
theorem dX11_reckoned_40 : decode cX11_reckoned 40 = .ok (.iand, 1) := by decide +kernel
theorem dX11_reckoned_41 : decode cX11_reckoned 41 = .ok (.iconst 1, 1) := by decide +kernel
theorem dX11_reckoned_42 : decode cX11_reckoned 42 = .ok (.if_icmp .ne 63, 3) := by decide +kernel
theorem dX11_reckoned_45 : decode cX11_reckoned 45 = .ok (.iload_n 3, 1) := by decide +kernel
theorem dX11_reckoned_46 : decode cX11_reckoned 46 = .ok (.aload_n 0, 1) := by decide +kernel
theorem dX11_reckoned_47 : decode cX11_reckoned 47 = .ok (.getfield 34, 3) := by decide +kernel
theorem dX11_reckoned_50 : decode cX11_reckoned 50 = .ok (.iload 6, 2) := by decide +kernel
theorem dX11_reckoned_52 : decode cX11_reckoned 52 = .ok (.iaload, 1) := by decide +kernel
theorem dX11_reckoned_53 : decode cX11_reckoned 53 = .ok (.aload_n 0, 1) := by decide +kernel
theorem dX11_reckoned_54 : decode cX11_reckoned 54 = .ok (.getfield 37, 3) := by decide +kernel
theorem dX11_reckoned_57 : decode cX11_reckoned 57 = .ok (.iload 6, 2) := by decide +kernel
theorem dX11_reckoned_59 : decode cX11_reckoned 59 = .ok (.iaload, 1) := by decide +kernel
theorem dX11_reckoned_60 : decode cX11_reckoned 60 = .ok (.ior, 1) := by decide +kernel
theorem dX11_reckoned_61 : decode cX11_reckoned 61 = .ok (.ior, 1) := by decide +kernel
theorem dX11_reckoned_62 : decode cX11_reckoned 62 = .ok (.istore_n 3, 1) := by decide +kernel
theorem dX11_reckoned_63 : decode cX11_reckoned 63 = .ok (.iload 4, 2) := by decide +kernel
theorem dX11_reckoned_65 : decode cX11_reckoned 65 = .ok (.aload_n 0, 1) := by decide +kernel
theorem dX11_reckoned_66 : decode cX11_reckoned 66 = .ok (.getfield 7, 3) := by decide +kernel
theorem dX11_reckoned_69 : decode cX11_reckoned 69 = .ok (.iload 6, 2) := by decide +kernel
theorem dX11_reckoned_71 : decode cX11_reckoned 71 = .ok (.iaload, 1) := by decide +kernel
theorem dX11_reckoned_72 : decode cX11_reckoned 72 = .ok (.aload_n 0, 1) := by decide +kernel
theorem dX11_reckoned_73 : decode cX11_reckoned 73 = .ok (.getfield 13, 3) := by decide +kernel
theorem dX11_reckoned_76 : decode cX11_reckoned 76 = .ok (.iload 6, 2) := by decide +kernel
theorem dX11_reckoned_78 : decode cX11_reckoned 78 = .ok (.iaload, 1) := by decide +kernel
theorem dX11_reckoned_79 : decode cX11_reckoned 79 = .ok (.imul, 1) := by decide +kernel
theorem dX11_reckoned_80 : decode cX11_reckoned 80 = .ok (.iadd, 1) := by decide +kernel
theorem dX11_reckoned_81 : decode cX11_reckoned 81 = .ok (.istore 4, 2) := by decide +kernel
theorem dX11_reckoned_83 : decode cX11_reckoned 83 = .ok (.iload 5, 2) := by decide +kernel
theorem dX11_reckoned_85 : decode cX11_reckoned 85 = .ok (.ifCond .eq 17, 3) := by decide +kernel
theorem dX11_reckoned_88 : decode cX11_reckoned 88 = .ok (.aload_n 0, 1) := by decide +kernel
theorem dX11_reckoned_89 : decode cX11_reckoned 89 = .ok (.getfield 13, 3) := by decide +kernel
theorem dX11_reckoned_92 : decode cX11_reckoned 92 = .ok (.iload 6, 2) := by decide +kernel
theorem dX11_reckoned_94 : decode cX11_reckoned 94 = .ok (.iaload, 1) := by decide +kernel
theorem dX11_reckoned_95 : decode cX11_reckoned 95 = .ok (.ifCond .le 7, 3) := by decide +kernel
theorem dX11_reckoned_98 : decode cX11_reckoned 98 = .ok (.iconst 1, 1) := by decide +kernel
theorem dX11_reckoned_99 : decode cX11_reckoned 99 = .ok (.goto 4, 3) := by decide +kernel
theorem dX11_reckoned_102 : decode cX11_reckoned 102 = .ok (.iconst 0, 1) := by decide +kernel
theorem dX11_reckoned_103 : decode cX11_reckoned 103 = .ok (.istore 5, 2) := by decide +kernel
theorem dX11_reckoned_105 : decode cX11_reckoned 105 = .ok (.iinc 6 1, 3) := by decide +kernel
theorem dX11_reckoned_108 : decode cX11_reckoned 108 = .ok (.goto (-82), 3) := by decide +kernel
theorem dX11_reckoned_111 : decode cX11_reckoned 111 = .ok (.aload_n 0, 1) := by decide +kernel
theorem dX11_reckoned_112 : decode cX11_reckoned 112 = .ok (.iload_n 3, 1) := by decide +kernel
theorem dX11_reckoned_113 : decode cX11_reckoned 113 = .ok (.iload_n 2, 1) := by decide +kernel
theorem dX11_reckoned_114 : decode cX11_reckoned 114 = .ok (.iconst (-1), 1) := by decide +kernel
theorem dX11_reckoned_115 : decode cX11_reckoned 115 = .ok (.ixor, 1) := by decide +kernel
theorem dX11_reckoned_116 : decode cX11_reckoned 116 = .ok (.iand, 1) := by decide +kernel
theorem dX11_reckoned_117 : decode cX11_reckoned 117 = .ok (.invokevirtual 146, 3) := by decide +kernel
theorem dX11_reckoned_120 : decode cX11_reckoned 120 = .ok (.istore 6, 2) := by decide +kernel
theorem dX11_reckoned_122 : decode cX11_reckoned 122 = .ok (.iload 6, 2) := by decide +kernel
theorem dX11_reckoned_124 : decode cX11_reckoned 124 = .ok (.bipush (-4), 2) := by decide +kernel
theorem dX11_reckoned_126 : decode cX11_reckoned 126 = .ok (.if_icmp .ne 8, 3) := by decide +kernel
theorem dX11_reckoned_129 : decode cX11_reckoned 129 = .ok (.bipush (-4), 2) := by decide +kernel
theorem dX11_reckoned_131 : decode cX11_reckoned 131 = .ok (.goto 25, 3) := by decide +kernel
theorem dX11_reckoned_134 : decode cX11_reckoned 134 = .ok (.iload 5, 2) := by decide +kernel
theorem dX11_reckoned_136 : decode cX11_reckoned 136 = .ok (.ifCond .eq 10, 3) := by decide +kernel
theorem dX11_reckoned_139 : decode cX11_reckoned 139 = .ok (.iload 6, 2) := by decide +kernel
theorem dX11_reckoned_141 : decode cX11_reckoned 141 = .ok (.bipush (-5), 2) := by decide +kernel
theorem dX11_reckoned_143 : decode cX11_reckoned 143 = .ok (.if_icmp .ne 8, 3) := by decide +kernel
theorem dX11_reckoned_146 : decode cX11_reckoned 146 = .ok (.bipush (-5), 2) := by decide +kernel
theorem dX11_reckoned_148 : decode cX11_reckoned 148 = .ok (.goto 8, 3) := by decide +kernel
theorem dX11_reckoned_151 : decode cX11_reckoned 151 = .ok (.iload 4, 2) := by decide +kernel
theorem dX11_reckoned_153 : decode cX11_reckoned 153 = .ok (.iload 6, 2) := by decide +kernel
theorem dX11_reckoned_155 : decode cX11_reckoned 155 = .ok (.iadd, 1) := by decide +kernel
theorem dX11_reckoned_156 : decode cX11_reckoned 156 = .ok (.ireturn, 1) := by decide +kernel
theorem dX11_reckoned_157 : decode cX11_reckoned 157 = .ok (.iconst 0, 1) := by decide +kernel
theorem dX11_reckoned_158 : decode cX11_reckoned 158 = .ok (.istore_n 3, 1) := by decide +kernel
theorem dX11_reckoned_159 : decode cX11_reckoned 159 = .ok (.iconst 1, 1) := by decide +kernel
theorem dX11_reckoned_160 : decode cX11_reckoned 160 = .ok (.istore 4, 2) := by decide +kernel
theorem dX11_reckoned_162 : decode cX11_reckoned 162 = .ok (.iconst 1, 1) := by decide +kernel
theorem dX11_reckoned_163 : decode cX11_reckoned 163 = .ok (.istore 5, 2) := by decide +kernel
theorem dX11_reckoned_165 : decode cX11_reckoned 165 = .ok (.iconst 0, 1) := by decide +kernel
theorem dX11_reckoned_166 : decode cX11_reckoned 166 = .ok (.istore 6, 2) := by decide +kernel
theorem dX11_reckoned_168 : decode cX11_reckoned 168 = .ok (.iload 6, 2) := by decide +kernel
theorem dX11_reckoned_170 : decode cX11_reckoned 170 = .ok (.aload_n 0, 1) := by decide +kernel
theorem dX11_reckoned_171 : decode cX11_reckoned 171 = .ok (.getfield 91, 3) := by decide +kernel
theorem dX11_reckoned_174 : decode cX11_reckoned 174 = .ok (.if_icmp .ge 78, 3) := by decide +kernel
theorem dX11_reckoned_177 : decode cX11_reckoned 177 = .ok (.iload_n 2, 1) := by decide +kernel
theorem dX11_reckoned_178 : decode cX11_reckoned 178 = .ok (.iload 6, 2) := by decide +kernel
theorem dX11_reckoned_180 : decode cX11_reckoned 180 = .ok (.ishr, 1) := by decide +kernel
theorem dX11_reckoned_181 : decode cX11_reckoned 181 = .ok (.iconst 1, 1) := by decide +kernel
theorem dX11_reckoned_182 : decode cX11_reckoned 182 = .ok (.iand, 1) := by decide +kernel
theorem dX11_reckoned_183 : decode cX11_reckoned 183 = .ok (.iconst 1, 1) := by decide +kernel
theorem dX11_reckoned_184 : decode cX11_reckoned 184 = .ok (.if_icmp .ne 62, 3) := by decide +kernel
theorem dX11_reckoned_187 : decode cX11_reckoned 187 = .ok (.aload_n 0, 1) := by decide +kernel
theorem dX11_reckoned_188 : decode cX11_reckoned 188 = .ok (.iload 6, 2) := by decide +kernel
theorem dX11_reckoned_190 : decode cX11_reckoned 190 = .ok (.invokevirtual 149, 3) := by decide +kernel
theorem dX11_reckoned_193 : decode cX11_reckoned 193 = .ok (.istore 7, 2) := by decide +kernel
theorem dX11_reckoned_195 : decode cX11_reckoned 195 = .ok (.iload 4, 2) := by decide +kernel
theorem dX11_reckoned_197 : decode cX11_reckoned 197 = .ok (.ifCond .eq 14, 3) := by decide +kernel
theorem dX11_reckoned_200 : decode cX11_reckoned 200 = .ok (.iload 7, 2) := by decide +kernel
theorem dX11_reckoned_202 : decode cX11_reckoned 202 = .ok (.bipush (-4), 2) := by decide +kernel
theorem dX11_reckoned_204 : decode cX11_reckoned 204 = .ok (.if_icmp .eq 7, 3) := by decide +kernel
theorem dX11_reckoned_207 : decode cX11_reckoned 207 = .ok (.iconst 1, 1) := by decide +kernel
theorem dX11_reckoned_208 : decode cX11_reckoned 208 = .ok (.goto 4, 3) := by decide +kernel
theorem dX11_reckoned_211 : decode cX11_reckoned 211 = .ok (.iconst 0, 1) := by decide +kernel
theorem dX11_reckoned_212 : decode cX11_reckoned 212 = .ok (.istore 4, 2) := by decide +kernel
theorem dX11_reckoned_214 : decode cX11_reckoned 214 = .ok (.iload 5, 2) := by decide +kernel
theorem dX11_reckoned_216 : decode cX11_reckoned 216 = .ok (.ifCond .eq 14, 3) := by decide +kernel
theorem dX11_reckoned_219 : decode cX11_reckoned 219 = .ok (.iload 7, 2) := by decide +kernel
theorem dX11_reckoned_221 : decode cX11_reckoned 221 = .ok (.bipush (-5), 2) := by decide +kernel
theorem dX11_reckoned_223 : decode cX11_reckoned 223 = .ok (.if_icmp .eq 7, 3) := by decide +kernel
theorem dX11_reckoned_226 : decode cX11_reckoned 226 = .ok (.iconst 1, 1) := by decide +kernel
theorem dX11_reckoned_227 : decode cX11_reckoned 227 = .ok (.goto 4, 3) := by decide +kernel
theorem dX11_reckoned_230 : decode cX11_reckoned 230 = .ok (.iconst 0, 1) := by decide +kernel
theorem dX11_reckoned_231 : decode cX11_reckoned 231 = .ok (.istore 5, 2) := by decide +kernel
theorem dX11_reckoned_233 : decode cX11_reckoned 233 = .ok (.iload 7, 2) := by decide +kernel
theorem dX11_reckoned_235 : decode cX11_reckoned 235 = .ok (.iload_n 3, 1) := by decide +kernel
theorem dX11_reckoned_236 : decode cX11_reckoned 236 = .ok (.if_icmp .le 8, 3) := by decide +kernel
theorem dX11_reckoned_239 : decode cX11_reckoned 239 = .ok (.iload 7, 2) := by decide +kernel
theorem dX11_reckoned_241 : decode cX11_reckoned 241 = .ok (.goto 4, 3) := by decide +kernel
theorem dX11_reckoned_244 : decode cX11_reckoned 244 = .ok (.iload_n 3, 1) := by decide +kernel
theorem dX11_reckoned_245 : decode cX11_reckoned 245 = .ok (.istore_n 3, 1) := by decide +kernel
theorem dX11_reckoned_246 : decode cX11_reckoned 246 = .ok (.iinc 6 1, 3) := by decide +kernel
theorem dX11_reckoned_249 : decode cX11_reckoned 249 = .ok (.goto (-81), 3) := by decide +kernel
theorem dX11_reckoned_252 : decode cX11_reckoned 252 = .ok (.iload 4, 2) := by decide +kernel
theorem dX11_reckoned_254 : decode cX11_reckoned 254 = .ok (.ifCond .ne 8, 3) := by decide +kernel
theorem dX11_reckoned_257 : decode cX11_reckoned 257 = .ok (.bipush (-4), 2) := by decide +kernel
theorem dX11_reckoned_259 : decode cX11_reckoned 259 = .ok (.goto 14, 3) := by decide +kernel
theorem dX11_reckoned_262 : decode cX11_reckoned 262 = .ok (.iload 5, 2) := by decide +kernel
theorem dX11_reckoned_264 : decode cX11_reckoned 264 = .ok (.ifCond .eq 7, 3) := by decide +kernel
theorem dX11_reckoned_267 : decode cX11_reckoned 267 = .ok (.iload_n 3, 1) := by decide +kernel
theorem dX11_reckoned_268 : decode cX11_reckoned 268 = .ok (.goto 5, 3) := by decide +kernel
theorem dX11_reckoned_271 : decode cX11_reckoned 271 = .ok (.bipush (-5), 2) := by decide +kernel
theorem dX11_reckoned_273 : decode cX11_reckoned 273 = .ok (.ireturn, 1) := by decide +kernel
theorem dX11_layDepths_0 : decode cX11_layDepths 0 = .ok (.aload_n 0, 1) := by decide +kernel
theorem dX11_layDepths_1 : decode cX11_layDepths 1 = .ok (.invokevirtual 133, 3) := by decide +kernel
theorem dX11_layDepths_4 : decode cX11_layDepths 4 = .ok (.iconst 0, 1) := by decide +kernel
theorem dX11_layDepths_5 : decode cX11_layDepths 5 = .ok (.istore_n 1, 1) := by decide +kernel
theorem dX11_layDepths_6 : decode cX11_layDepths 6 = .ok (.iload_n 1, 1) := by decide +kernel
theorem dX11_layDepths_7 : decode cX11_layDepths 7 = .ok (.bipush 20, 2) := by decide +kernel
theorem dX11_layDepths_9 : decode cX11_layDepths 9 = .ok (.if_icmp .ge 17, 3) := by decide +kernel
theorem dX11_layDepths_12 : decode cX11_layDepths 12 = .ok (.aload_n 0, 1) := by decide +kernel
theorem dX11_layDepths_13 : decode cX11_layDepths 13 = .ok (.getfield 46, 3) := by decide +kernel
theorem dX11_layDepths_16 : decode cX11_layDepths 16 = .ok (.iload_n 1, 1) := by decide +kernel
theorem dX11_layDepths_17 : decode cX11_layDepths 17 = .ok (.bipush (-4), 2) := by decide +kernel
theorem dX11_layDepths_19 : decode cX11_layDepths 19 = .ok (.iastore, 1) := by decide +kernel
theorem dX11_layDepths_20 : decode cX11_layDepths 20 = .ok (.iinc 1 1, 3) := by decide +kernel
theorem dX11_layDepths_23 : decode cX11_layDepths 23 = .ok (.goto (-17), 3) := by decide +kernel
theorem dX11_layDepths_26 : decode cX11_layDepths 26 = .ok (.iconst 0, 1) := by decide +kernel
theorem dX11_layDepths_27 : decode cX11_layDepths 27 = .ok (.istore_n 1, 1) := by decide +kernel
theorem dX11_layDepths_28 : decode cX11_layDepths 28 = .ok (.iload_n 1, 1) := by decide +kernel
theorem dX11_layDepths_29 : decode cX11_layDepths 29 = .ok (.aload_n 0, 1) := by decide +kernel
theorem dX11_layDepths_30 : decode cX11_layDepths 30 = .ok (.getfield 91, 3) := by decide +kernel
theorem dX11_layDepths_33 : decode cX11_layDepths 33 = .ok (.if_icmp .ge 56, 3) := by decide +kernel
theorem dX11_layDepths_36 : decode cX11_layDepths 36 = .ok (.iconst 0, 1) := by decide +kernel
theorem dX11_layDepths_37 : decode cX11_layDepths 37 = .ok (.istore_n 2, 1) := by decide +kernel
theorem dX11_layDepths_38 : decode cX11_layDepths 38 = .ok (.iload_n 2, 1) := by decide +kernel
theorem dX11_layDepths_39 : decode cX11_layDepths 39 = .ok (.aload_n 0, 1) := by decide +kernel
theorem dX11_layDepths_40 : decode cX11_layDepths 40 = .ok (.getfield 91, 3) := by decide +kernel
theorem dX11_layDepths_43 : decode cX11_layDepths 43 = .ok (.if_icmp .ge 40, 3) := by decide +kernel
theorem dX11_layDepths_46 : decode cX11_layDepths 46 = .ok (.aload_n 0, 1) := by decide +kernel
theorem dX11_layDepths_47 : decode cX11_layDepths 47 = .ok (.getfield 46, 3) := by decide +kernel
theorem dX11_layDepths_50 : decode cX11_layDepths 50 = .ok (.iload_n 2, 1) := by decide +kernel
theorem dX11_layDepths_51 : decode cX11_layDepths 51 = .ok (.aload_n 0, 1) := by decide +kernel
theorem dX11_layDepths_52 : decode cX11_layDepths 52 = .ok (.getfield 46, 3) := by decide +kernel
theorem dX11_layDepths_55 : decode cX11_layDepths 55 = .ok (.iload_n 2, 1) := by decide +kernel
theorem dX11_layDepths_56 : decode cX11_layDepths 56 = .ok (.iaload, 1) := by decide +kernel
theorem dX11_layDepths_57 : decode cX11_layDepths 57 = .ok (.bipush (-4), 2) := by decide +kernel
theorem dX11_layDepths_59 : decode cX11_layDepths 59 = .ok (.if_icmp .ne 11, 3) := by decide +kernel
theorem dX11_layDepths_62 : decode cX11_layDepths 62 = .ok (.aload_n 0, 1) := by decide +kernel
theorem dX11_layDepths_63 : decode cX11_layDepths 63 = .ok (.iload_n 2, 1) := by decide +kernel
theorem dX11_layDepths_64 : decode cX11_layDepths 64 = .ok (.invokevirtual 152, 3) := by decide +kernel
theorem dX11_layDepths_67 : decode cX11_layDepths 67 = .ok (.goto 9, 3) := by decide +kernel
theorem dX11_layDepths_70 : decode cX11_layDepths 70 = .ok (.aload_n 0, 1) := by decide +kernel
theorem dX11_layDepths_71 : decode cX11_layDepths 71 = .ok (.getfield 46, 3) := by decide +kernel
theorem dX11_layDepths_74 : decode cX11_layDepths 74 = .ok (.iload_n 2, 1) := by decide +kernel
theorem dX11_layDepths_75 : decode cX11_layDepths 75 = .ok (.iaload, 1) := by decide +kernel
theorem dX11_layDepths_76 : decode cX11_layDepths 76 = .ok (.iastore, 1) := by decide +kernel
theorem dX11_layDepths_77 : decode cX11_layDepths 77 = .ok (.iinc 2 1, 3) := by decide +kernel
theorem dX11_layDepths_80 : decode cX11_layDepths 80 = .ok (.goto (-42), 3) := by decide +kernel
theorem dX11_layDepths_83 : decode cX11_layDepths 83 = .ok (.iinc 1 1, 3) := by decide +kernel
theorem dX11_layDepths_86 : decode cX11_layDepths 86 = .ok (.goto (-58), 3) := by decide +kernel
theorem dX11_layDepths_89 : decode cX11_layDepths 89 = .ok (.return_, 1) := by decide +kernel
theorem dX11_depth_0 : decode cX11_depth 0 = .ok (.aload_n 0, 1) := by decide +kernel
theorem dX11_depth_1 : decode cX11_depth 1 = .ok (.iload_n 1, 1) := by decide +kernel
theorem dX11_depth_2 : decode cX11_depth 2 = .ok (.invokevirtual 103, 3) := by decide +kernel
theorem dX11_depth_5 : decode cX11_depth 5 = .ok (.ifCond .ne 5, 3) := by decide +kernel
theorem dX11_depth_8 : decode cX11_depth 8 = .ok (.iconst (-1), 1) := by decide +kernel
theorem dX11_depth_9 : decode cX11_depth 9 = .ok (.ireturn, 1) := by decide +kernel
theorem dX11_depth_10 : decode cX11_depth 10 = .ok (.aload_n 0, 1) := by decide +kernel
theorem dX11_depth_11 : decode cX11_depth 11 = .ok (.invokevirtual 155, 3) := by decide +kernel
theorem dX11_depth_14 : decode cX11_depth 14 = .ok (.aload_n 0, 1) := by decide +kernel
theorem dX11_depth_15 : decode cX11_depth 15 = .ok (.getfield 46, 3) := by decide +kernel
theorem dX11_depth_18 : decode cX11_depth 18 = .ok (.iload_n 1, 1) := by decide +kernel
theorem dX11_depth_19 : decode cX11_depth 19 = .ok (.iaload, 1) := by decide +kernel
theorem dX11_depth_20 : decode cX11_depth 20 = .ok (.ireturn, 1) := by decide +kernel
theorem dX11_reachesRing_0 : decode cX11_reachesRing 0 = .ok (.aload_n 0, 1) := by decide +kernel
theorem dX11_reachesRing_1 : decode cX11_reachesRing 1 = .ok (.iload_n 1, 1) := by decide +kernel
theorem dX11_reachesRing_2 : decode cX11_reachesRing 2 = .ok (.invokevirtual 136, 3) := by decide +kernel
theorem dX11_reachesRing_5 : decode cX11_reachesRing 5 = .ok (.istore_n 2, 1) := by decide +kernel
theorem dX11_reachesRing_6 : decode cX11_reachesRing 6 = .ok (.iconst 0, 1) := by decide +kernel
theorem dX11_reachesRing_7 : decode cX11_reachesRing 7 = .ok (.istore_n 3, 1) := by decide +kernel
theorem dX11_reachesRing_8 : decode cX11_reachesRing 8 = .ok (.iload_n 3, 1) := by decide +kernel
theorem dX11_reachesRing_9 : decode cX11_reachesRing 9 = .ok (.aload_n 0, 1) := by decide +kernel
theorem dX11_reachesRing_10 : decode cX11_reachesRing 10 = .ok (.getfield 91, 3) := by decide +kernel
theorem dX11_reachesRing_13 : decode cX11_reachesRing 13 = .ok (.if_icmp .ge 41, 3) := by decide +kernel
theorem dX11_reachesRing_16 : decode cX11_reachesRing 16 = .ok (.iload_n 2, 1) := by decide +kernel
theorem dX11_reachesRing_17 : decode cX11_reachesRing 17 = .ok (.ifCond .ne 25, 3) := by decide +kernel
theorem dX11_reachesRing_20 : decode cX11_reachesRing 20 = .ok (.aload_n 0, 1) := by decide +kernel
theorem dX11_reachesRing_21 : decode cX11_reachesRing 21 = .ok (.getfield 40, 3) := by decide +kernel
theorem dX11_reachesRing_24 : decode cX11_reachesRing 24 = .ok (.iload_n 1, 1) := by decide +kernel
theorem dX11_reachesRing_25 : decode cX11_reachesRing 25 = .ok (.iaload, 1) := by decide +kernel
theorem dX11_reachesRing_26 : decode cX11_reachesRing 26 = .ok (.iload_n 3, 1) := by decide +kernel
theorem dX11_reachesRing_27 : decode cX11_reachesRing 27 = .ok (.ishr, 1) := by decide +kernel
theorem dX11_reachesRing_28 : decode cX11_reachesRing 28 = .ok (.iconst 1, 1) := by decide +kernel
theorem dX11_reachesRing_29 : decode cX11_reachesRing 29 = .ok (.iand, 1) := by decide +kernel
theorem dX11_reachesRing_30 : decode cX11_reachesRing 30 = .ok (.iconst 1, 1) := by decide +kernel
theorem dX11_reachesRing_31 : decode cX11_reachesRing 31 = .ok (.if_icmp .ne 15, 3) := by decide +kernel
theorem dX11_reachesRing_34 : decode cX11_reachesRing 34 = .ok (.aload_n 0, 1) := by decide +kernel
theorem dX11_reachesRing_35 : decode cX11_reachesRing 35 = .ok (.iload_n 3, 1) := by decide +kernel
theorem dX11_reachesRing_36 : decode cX11_reachesRing 36 = .ok (.invokevirtual 136, 3) := by decide +kernel
theorem dX11_reachesRing_39 : decode cX11_reachesRing 39 = .ok (.ifCond .eq 7, 3) := by decide +kernel
theorem dX11_reachesRing_42 : decode cX11_reachesRing 42 = .ok (.iconst 1, 1) := by decide +kernel
theorem dX11_reachesRing_43 : decode cX11_reachesRing 43 = .ok (.goto 4, 3) := by decide +kernel
theorem dX11_reachesRing_46 : decode cX11_reachesRing 46 = .ok (.iconst 0, 1) := by decide +kernel
theorem dX11_reachesRing_47 : decode cX11_reachesRing 47 = .ok (.istore_n 2, 1) := by decide +kernel
theorem dX11_reachesRing_48 : decode cX11_reachesRing 48 = .ok (.iinc 3 1, 3) := by decide +kernel
theorem dX11_reachesRing_51 : decode cX11_reachesRing 51 = .ok (.goto (-43), 3) := by decide +kernel
theorem dX11_reachesRing_54 : decode cX11_reachesRing 54 = .ok (.iload_n 2, 1) := by decide +kernel
theorem dX11_reachesRing_55 : decode cX11_reachesRing 55 = .ok (.ireturn, 1) := by decide +kernel
theorem dX11_nextOf_0 : decode cX11_nextOf 0 = .ok (.aload_n 0, 1) := by decide +kernel
theorem dX11_nextOf_1 : decode cX11_nextOf 1 = .ok (.iload_n 1, 1) := by decide +kernel
theorem dX11_nextOf_2 : decode cX11_nextOf 2 = .ok (.invokevirtual 149, 3) := by decide +kernel
theorem dX11_nextOf_5 : decode cX11_nextOf 5 = .ok (.aload_n 0, 1) := by decide +kernel
theorem dX11_nextOf_6 : decode cX11_nextOf 6 = .ok (.getfield 46, 3) := by decide +kernel
theorem dX11_nextOf_9 : decode cX11_nextOf 9 = .ok (.iload_n 1, 1) := by decide +kernel
theorem dX11_nextOf_10 : decode cX11_nextOf 10 = .ok (.iaload, 1) := by decide +kernel
theorem dX11_nextOf_11 : decode cX11_nextOf 11 = .ok (.if_icmp .ge 49, 3) := by decide +kernel
theorem dX11_nextOf_14 : decode cX11_nextOf 14 = .ok (.iconst 0, 1) := by decide +kernel
theorem dX11_nextOf_15 : decode cX11_nextOf 15 = .ok (.istore_n 2, 1) := by decide +kernel
theorem dX11_nextOf_16 : decode cX11_nextOf 16 = .ok (.iload_n 2, 1) := by decide +kernel
theorem dX11_nextOf_17 : decode cX11_nextOf 17 = .ok (.aload_n 0, 1) := by decide +kernel
theorem dX11_nextOf_18 : decode cX11_nextOf 18 = .ok (.getfield 91, 3) := by decide +kernel
theorem dX11_nextOf_21 : decode cX11_nextOf 21 = .ok (.if_icmp .ge 39, 3) := by decide +kernel
theorem dX11_nextOf_24 : decode cX11_nextOf 24 = .ok (.aload_n 0, 1) := by decide +kernel
theorem dX11_nextOf_25 : decode cX11_nextOf 25 = .ok (.getfield 43, 3) := by decide +kernel
theorem dX11_nextOf_28 : decode cX11_nextOf 28 = .ok (.iload_n 1, 1) := by decide +kernel
theorem dX11_nextOf_29 : decode cX11_nextOf 29 = .ok (.iaload, 1) := by decide +kernel
theorem dX11_nextOf_30 : decode cX11_nextOf 30 = .ok (.iload_n 2, 1) := by decide +kernel
theorem dX11_nextOf_31 : decode cX11_nextOf 31 = .ok (.ishr, 1) := by decide +kernel
theorem dX11_nextOf_32 : decode cX11_nextOf 32 = .ok (.iconst 1, 1) := by decide +kernel
theorem dX11_nextOf_33 : decode cX11_nextOf 33 = .ok (.iand, 1) := by decide +kernel
theorem dX11_nextOf_34 : decode cX11_nextOf 34 = .ok (.iconst 1, 1) := by decide +kernel
theorem dX11_nextOf_35 : decode cX11_nextOf 35 = .ok (.if_icmp .ne 19, 3) := by decide +kernel
theorem dX11_nextOf_38 : decode cX11_nextOf 38 = .ok (.aload_n 0, 1) := by decide +kernel
theorem dX11_nextOf_39 : decode cX11_nextOf 39 = .ok (.iload_n 2, 1) := by decide +kernel
theorem dX11_nextOf_40 : decode cX11_nextOf 40 = .ok (.invokevirtual 149, 3) := by decide +kernel
theorem dX11_nextOf_43 : decode cX11_nextOf 43 = .ok (.aload_n 0, 1) := by decide +kernel
theorem dX11_nextOf_44 : decode cX11_nextOf 44 = .ok (.getfield 46, 3) := by decide +kernel
theorem dX11_nextOf_47 : decode cX11_nextOf 47 = .ok (.iload_n 1, 1) := by decide +kernel
theorem dX11_nextOf_48 : decode cX11_nextOf 48 = .ok (.iaload, 1) := by decide +kernel
theorem dX11_nextOf_49 : decode cX11_nextOf 49 = .ok (.if_icmp .ne 5, 3) := by decide +kernel
theorem dX11_nextOf_52 : decode cX11_nextOf 52 = .ok (.iload_n 2, 1) := by decide +kernel
theorem dX11_nextOf_53 : decode cX11_nextOf 53 = .ok (.ireturn, 1) := by decide +kernel
theorem dX11_nextOf_54 : decode cX11_nextOf 54 = .ok (.iinc 2 1, 3) := by decide +kernel
theorem dX11_nextOf_57 : decode cX11_nextOf 57 = .ok (.goto (-41), 3) := by decide +kernel
theorem dX11_nextOf_60 : decode cX11_nextOf 60 = .ok (.iconst 0, 1) := by decide +kernel
theorem dX11_nextOf_61 : decode cX11_nextOf 61 = .ok (.istore_n 2, 1) := by decide +kernel
theorem dX11_nextOf_62 : decode cX11_nextOf 62 = .ok (.iload_n 2, 1) := by decide +kernel
theorem dX11_nextOf_63 : decode cX11_nextOf 63 = .ok (.aload_n 0, 1) := by decide +kernel
theorem dX11_nextOf_64 : decode cX11_nextOf 64 = .ok (.getfield 91, 3) := by decide +kernel
theorem dX11_nextOf_67 : decode cX11_nextOf 67 = .ok (.if_icmp .ge 47, 3) := by decide +kernel
theorem dX11_nextOf_70 : decode cX11_nextOf 70 = .ok (.aload_n 0, 1) := by decide +kernel
theorem dX11_nextOf_71 : decode cX11_nextOf 71 = .ok (.getfield 34, 3) := by decide +kernel
theorem dX11_nextOf_74 : decode cX11_nextOf 74 = .ok (.iload_n 1, 1) := by decide +kernel
theorem dX11_nextOf_75 : decode cX11_nextOf 75 = .ok (.iaload, 1) := by decide +kernel
theorem dX11_nextOf_76 : decode cX11_nextOf 76 = .ok (.iload_n 2, 1) := by decide +kernel
theorem dX11_nextOf_77 : decode cX11_nextOf 77 = .ok (.ishr, 1) := by decide +kernel
theorem dX11_nextOf_78 : decode cX11_nextOf 78 = .ok (.iconst 1, 1) := by decide +kernel
theorem dX11_nextOf_79 : decode cX11_nextOf 79 = .ok (.iand, 1) := by decide +kernel
theorem dX11_nextOf_80 : decode cX11_nextOf 80 = .ok (.iconst 1, 1) := by decide +kernel
theorem dX11_nextOf_81 : decode cX11_nextOf 81 = .ok (.if_icmp .ne 27, 3) := by decide +kernel
theorem dX11_nextOf_84 : decode cX11_nextOf 84 = .ok (.aload_n 0, 1) := by decide +kernel
theorem dX11_nextOf_85 : decode cX11_nextOf 85 = .ok (.getfield 7, 3) := by decide +kernel
theorem dX11_nextOf_88 : decode cX11_nextOf 88 = .ok (.iload_n 1, 1) := by decide +kernel
theorem dX11_nextOf_89 : decode cX11_nextOf 89 = .ok (.iaload, 1) := by decide +kernel
theorem dX11_nextOf_90 : decode cX11_nextOf 90 = .ok (.aload_n 0, 1) := by decide +kernel
theorem dX11_nextOf_91 : decode cX11_nextOf 91 = .ok (.getfield 46, 3) := by decide +kernel
theorem dX11_nextOf_94 : decode cX11_nextOf 94 = .ok (.iload_n 2, 1) := by decide +kernel
theorem dX11_nextOf_95 : decode cX11_nextOf 95 = .ok (.iaload, 1) := by decide +kernel
theorem dX11_nextOf_96 : decode cX11_nextOf 96 = .ok (.iadd, 1) := by decide +kernel
theorem dX11_nextOf_97 : decode cX11_nextOf 97 = .ok (.aload_n 0, 1) := by decide +kernel
theorem dX11_nextOf_98 : decode cX11_nextOf 98 = .ok (.getfield 46, 3) := by decide +kernel
theorem dX11_nextOf_101 : decode cX11_nextOf 101 = .ok (.iload_n 1, 1) := by decide +kernel
theorem dX11_nextOf_102 : decode cX11_nextOf 102 = .ok (.iaload, 1) := by decide +kernel
theorem dX11_nextOf_103 : decode cX11_nextOf 103 = .ok (.if_icmp .ne 5, 3) := by decide +kernel
theorem dX11_nextOf_106 : decode cX11_nextOf 106 = .ok (.iload_n 2, 1) := by decide +kernel
theorem dX11_nextOf_107 : decode cX11_nextOf 107 = .ok (.ireturn, 1) := by decide +kernel
theorem dX11_nextOf_108 : decode cX11_nextOf 108 = .ok (.iinc 2 1, 3) := by decide +kernel
theorem dX11_nextOf_111 : decode cX11_nextOf 111 = .ok (.goto (-49), 3) := by decide +kernel
theorem dX11_nextOf_114 : decode cX11_nextOf 114 = .ok (.iconst 0, 1) := by decide +kernel
theorem dX11_nextOf_115 : decode cX11_nextOf 115 = .ok (.istore_n 2, 1) := by decide +kernel
theorem dX11_nextOf_116 : decode cX11_nextOf 116 = .ok (.iload_n 2, 1) := by decide +kernel
theorem dX11_nextOf_117 : decode cX11_nextOf 117 = .ok (.aload_n 0, 1) := by decide +kernel
theorem dX11_nextOf_118 : decode cX11_nextOf 118 = .ok (.getfield 91, 3) := by decide +kernel
theorem dX11_nextOf_121 : decode cX11_nextOf 121 = .ok (.if_icmp .ge 49, 3) := by decide +kernel
theorem dX11_nextOf_124 : decode cX11_nextOf 124 = .ok (.aload_n 0, 1) := by decide +kernel
theorem dX11_nextOf_125 : decode cX11_nextOf 125 = .ok (.getfield 37, 3) := by decide +kernel
theorem dX11_nextOf_128 : decode cX11_nextOf 128 = .ok (.iload_n 1, 1) := by decide +kernel
theorem dX11_nextOf_129 : decode cX11_nextOf 129 = .ok (.iaload, 1) := by decide +kernel
theorem dX11_nextOf_130 : decode cX11_nextOf 130 = .ok (.aload_n 0, 1) := by decide +kernel
theorem dX11_nextOf_131 : decode cX11_nextOf 131 = .ok (.getfield 43, 3) := by decide +kernel
theorem dX11_nextOf_134 : decode cX11_nextOf 134 = .ok (.iload_n 1, 1) := by decide +kernel
theorem dX11_nextOf_135 : decode cX11_nextOf 135 = .ok (.iaload, 1) := by decide +kernel
theorem dX11_nextOf_136 : decode cX11_nextOf 136 = .ok (.iconst (-1), 1) := by decide +kernel
theorem dX11_nextOf_137 : decode cX11_nextOf 137 = .ok (.ixor, 1) := by decide +kernel
theorem dX11_nextOf_138 : decode cX11_nextOf 138 = .ok (.iand, 1) := by decide +kernel
theorem dX11_nextOf_139 : decode cX11_nextOf 139 = .ok (.iload_n 2, 1) := by decide +kernel
theorem dX11_nextOf_140 : decode cX11_nextOf 140 = .ok (.ishr, 1) := by decide +kernel
theorem dX11_nextOf_141 : decode cX11_nextOf 141 = .ok (.iconst 1, 1) := by decide +kernel
theorem dX11_nextOf_142 : decode cX11_nextOf 142 = .ok (.iand, 1) := by decide +kernel
theorem dX11_nextOf_143 : decode cX11_nextOf 143 = .ok (.iconst 1, 1) := by decide +kernel
theorem dX11_nextOf_144 : decode cX11_nextOf 144 = .ok (.if_icmp .ne 20, 3) := by decide +kernel
theorem dX11_nextOf_147 : decode cX11_nextOf 147 = .ok (.aload_n 0, 1) := by decide +kernel
theorem dX11_nextOf_148 : decode cX11_nextOf 148 = .ok (.getfield 46, 3) := by decide +kernel
theorem dX11_nextOf_151 : decode cX11_nextOf 151 = .ok (.iload_n 2, 1) := by decide +kernel
theorem dX11_nextOf_152 : decode cX11_nextOf 152 = .ok (.iaload, 1) := by decide +kernel
theorem dX11_nextOf_153 : decode cX11_nextOf 153 = .ok (.aload_n 0, 1) := by decide +kernel
theorem dX11_nextOf_154 : decode cX11_nextOf 154 = .ok (.getfield 46, 3) := by decide +kernel
theorem dX11_nextOf_157 : decode cX11_nextOf 157 = .ok (.iload_n 1, 1) := by decide +kernel
theorem dX11_nextOf_158 : decode cX11_nextOf 158 = .ok (.iaload, 1) := by decide +kernel
theorem dX11_nextOf_159 : decode cX11_nextOf 159 = .ok (.if_icmp .ne 5, 3) := by decide +kernel
theorem dX11_nextOf_162 : decode cX11_nextOf 162 = .ok (.iload_n 2, 1) := by decide +kernel
theorem dX11_nextOf_163 : decode cX11_nextOf 163 = .ok (.ireturn, 1) := by decide +kernel
theorem dX11_nextOf_164 : decode cX11_nextOf 164 = .ok (.iinc 2 1, 3) := by decide +kernel
theorem dX11_nextOf_167 : decode cX11_nextOf 167 = .ok (.goto (-51), 3) := by decide +kernel
theorem dX11_nextOf_170 : decode cX11_nextOf 170 = .ok (.bipush (-4), 2) := by decide +kernel
theorem dX11_nextOf_172 : decode cX11_nextOf 172 = .ok (.ireturn, 1) := by decide +kernel
theorem dX11_way_0 : decode cX11_way 0 = .ok (.aload_n 0, 1) := by decide +kernel
theorem dX11_way_1 : decode cX11_way 1 = .ok (.iload_n 1, 1) := by decide +kernel
theorem dX11_way_2 : decode cX11_way 2 = .ok (.invokevirtual 103, 3) := by decide +kernel
theorem dX11_way_5 : decode cX11_way 5 = .ok (.ifCond .eq 7, 3) := by decide +kernel
theorem dX11_way_8 : decode cX11_way 8 = .ok (.iload_n 2, 1) := by decide +kernel
theorem dX11_way_9 : decode cX11_way 9 = .ok (.ifCond .ge 5, 3) := by decide +kernel
theorem dX11_way_12 : decode cX11_way 12 = .ok (.iconst (-1), 1) := by decide +kernel
theorem dX11_way_13 : decode cX11_way 13 = .ok (.ireturn, 1) := by decide +kernel
theorem dX11_way_14 : decode cX11_way 14 = .ok (.aload_n 0, 1) := by decide +kernel
theorem dX11_way_15 : decode cX11_way 15 = .ok (.invokevirtual 155, 3) := by decide +kernel
theorem dX11_way_18 : decode cX11_way 18 = .ok (.aload_n 0, 1) := by decide +kernel
theorem dX11_way_19 : decode cX11_way 19 = .ok (.iload_n 1, 1) := by decide +kernel
theorem dX11_way_20 : decode cX11_way 20 = .ok (.invokevirtual 158, 3) := by decide +kernel
theorem dX11_way_23 : decode cX11_way 23 = .ok (.ifCond .eq 6, 3) := by decide +kernel
theorem dX11_way_26 : decode cX11_way 26 = .ok (.bipush (-2), 2) := by decide +kernel
theorem dX11_way_28 : decode cX11_way 28 = .ok (.ireturn, 1) := by decide +kernel
theorem dX11_way_29 : decode cX11_way 29 = .ok (.iload_n 1, 1) := by decide +kernel
theorem dX11_way_30 : decode cX11_way 30 = .ok (.istore_n 3, 1) := by decide +kernel
theorem dX11_way_31 : decode cX11_way 31 = .ok (.iconst 0, 1) := by decide +kernel
theorem dX11_way_32 : decode cX11_way 32 = .ok (.istore 4, 2) := by decide +kernel
theorem dX11_way_34 : decode cX11_way 34 = .ok (.iload 4, 2) := by decide +kernel
theorem dX11_way_36 : decode cX11_way 36 = .ok (.iload_n 2, 1) := by decide +kernel
theorem dX11_way_37 : decode cX11_way 37 = .ok (.if_icmp .ge 21, 3) := by decide +kernel
theorem dX11_way_40 : decode cX11_way 40 = .ok (.iload_n 3, 1) := by decide +kernel
theorem dX11_way_41 : decode cX11_way 41 = .ok (.bipush (-4), 2) := by decide +kernel
theorem dX11_way_43 : decode cX11_way 43 = .ok (.if_icmp .eq 15, 3) := by decide +kernel
theorem dX11_way_46 : decode cX11_way 46 = .ok (.aload_n 0, 1) := by decide +kernel
theorem dX11_way_47 : decode cX11_way 47 = .ok (.iload_n 3, 1) := by decide +kernel
theorem dX11_way_48 : decode cX11_way 48 = .ok (.invokevirtual 161, 3) := by decide +kernel
theorem dX11_way_51 : decode cX11_way 51 = .ok (.istore_n 3, 1) := by decide +kernel
theorem dX11_way_52 : decode cX11_way 52 = .ok (.iinc 4 1, 3) := by decide +kernel
theorem dX11_way_55 : decode cX11_way 55 = .ok (.goto (-21), 3) := by decide +kernel
theorem dX11_way_58 : decode cX11_way 58 = .ok (.iload_n 3, 1) := by decide +kernel
theorem dX11_way_59 : decode cX11_way 59 = .ok (.ireturn, 1) := by decide +kernel
theorem dX11_endless_0 : decode cX11_endless 0 = .ok (.aload_n 0, 1) := by decide +kernel
theorem dX11_endless_1 : decode cX11_endless 1 = .ok (.iload_n 1, 1) := by decide +kernel
theorem dX11_endless_2 : decode cX11_endless 2 = .ok (.invokevirtual 103, 3) := by decide +kernel
theorem dX11_endless_5 : decode cX11_endless 5 = .ok (.ifCond .ne 5, 3) := by decide +kernel
theorem dX11_endless_8 : decode cX11_endless 8 = .ok (.iconst (-1), 1) := by decide +kernel
theorem dX11_endless_9 : decode cX11_endless 9 = .ok (.ireturn, 1) := by decide +kernel
theorem dX11_endless_10 : decode cX11_endless 10 = .ok (.aload_n 0, 1) := by decide +kernel
theorem dX11_endless_11 : decode cX11_endless 11 = .ok (.invokevirtual 133, 3) := by decide +kernel
theorem dX11_endless_14 : decode cX11_endless 14 = .ok (.iconst 0, 1) := by decide +kernel
theorem dX11_endless_15 : decode cX11_endless 15 = .ok (.istore_n 2, 1) := by decide +kernel
theorem dX11_endless_16 : decode cX11_endless 16 = .ok (.iload_n 2, 1) := by decide +kernel
theorem dX11_endless_17 : decode cX11_endless 17 = .ok (.aload_n 0, 1) := by decide +kernel
theorem dX11_endless_18 : decode cX11_endless 18 = .ok (.getfield 91, 3) := by decide +kernel
theorem dX11_endless_21 : decode cX11_endless 21 = .ok (.if_icmp .ge 47, 3) := by decide +kernel
theorem dX11_endless_24 : decode cX11_endless 24 = .ok (.iload_n 2, 1) := by decide +kernel
theorem dX11_endless_25 : decode cX11_endless 25 = .ok (.iload_n 1, 1) := by decide +kernel
theorem dX11_endless_26 : decode cX11_endless 26 = .ok (.if_icmp .eq 17, 3) := by decide +kernel
theorem dX11_endless_29 : decode cX11_endless 29 = .ok (.aload_n 0, 1) := by decide +kernel
theorem dX11_endless_30 : decode cX11_endless 30 = .ok (.getfield 40, 3) := by decide +kernel
theorem dX11_endless_33 : decode cX11_endless 33 = .ok (.iload_n 1, 1) := by decide +kernel
theorem dX11_endless_34 : decode cX11_endless 34 = .ok (.iaload, 1) := by decide +kernel
theorem dX11_endless_35 : decode cX11_endless 35 = .ok (.iload_n 2, 1) := by decide +kernel
theorem dX11_endless_36 : decode cX11_endless 36 = .ok (.ishr, 1) := by decide +kernel
theorem dX11_endless_37 : decode cX11_endless 37 = .ok (.iconst 1, 1) := by decide +kernel
theorem dX11_endless_38 : decode cX11_endless 38 = .ok (.iand, 1) := by decide +kernel
theorem dX11_endless_39 : decode cX11_endless 39 = .ok (.iconst 1, 1) := by decide +kernel
theorem dX11_endless_40 : decode cX11_endless 40 = .ok (.if_icmp .ne 22, 3) := by decide +kernel
theorem dX11_endless_43 : decode cX11_endless 43 = .ok (.aload_n 0, 1) := by decide +kernel
theorem dX11_endless_44 : decode cX11_endless 44 = .ok (.iload_n 2, 1) := by decide +kernel
theorem dX11_endless_45 : decode cX11_endless 45 = .ok (.invokevirtual 136, 3) := by decide +kernel
theorem dX11_endless_48 : decode cX11_endless 48 = .ok (.ifCond .eq 14, 3) := by decide +kernel
theorem dX11_endless_51 : decode cX11_endless 51 = .ok (.aload_n 0, 1) := by decide +kernel
theorem dX11_endless_52 : decode cX11_endless 52 = .ok (.getfield 13, 3) := by decide +kernel
theorem dX11_endless_55 : decode cX11_endless 55 = .ok (.iload_n 2, 1) := by decide +kernel
theorem dX11_endless_56 : decode cX11_endless 56 = .ok (.iaload, 1) := by decide +kernel
theorem dX11_endless_57 : decode cX11_endless 57 = .ok (.ifCond .ne 5, 3) := by decide +kernel
theorem dX11_endless_60 : decode cX11_endless 60 = .ok (.iload_n 2, 1) := by decide +kernel
theorem dX11_endless_61 : decode cX11_endless 61 = .ok (.ireturn, 1) := by decide +kernel
theorem dX11_endless_62 : decode cX11_endless 62 = .ok (.iinc 2 1, 3) := by decide +kernel
theorem dX11_endless_65 : decode cX11_endless 65 = .ok (.goto (-49), 3) := by decide +kernel
theorem dX11_endless_68 : decode cX11_endless 68 = .ok (.bipush (-4), 2) := by decide +kernel
theorem dX11_endless_70 : decode cX11_endless 70 = .ok (.ireturn, 1) := by decide +kernel
theorem dX11_interrupt_0 : decode cX11_interrupt 0 = .ok (.iload_n 1, 1) := by decide +kernel
theorem dX11_interrupt_1 : decode cX11_interrupt 1 = .ok (.i2l, 1) := by decide +kernel
theorem dX11_interrupt_2 : decode cX11_interrupt 2 = .ok (.lconst 1, 1) := by decide +kernel
theorem dX11_interrupt_3 : decode cX11_interrupt 3 = .ok (.ldc2_w 99, 3) := by decide +kernel
theorem dX11_interrupt_6 : decode cX11_interrupt 6 = .ok (.invokestatic 95, 3) := by decide +kernel
theorem dX11_interrupt_9 : decode cX11_interrupt 9 = .ok (.ifCond .eq 23, 3) := by decide +kernel
theorem dX11_interrupt_12 : decode cX11_interrupt 12 = .ok (.aload_n 0, 1) := by decide +kernel
theorem dX11_interrupt_13 : decode cX11_interrupt 13 = .ok (.iload_n 2, 1) := by decide +kernel
theorem dX11_interrupt_14 : decode cX11_interrupt 14 = .ok (.invokevirtual 103, 3) := by decide +kernel
theorem dX11_interrupt_17 : decode cX11_interrupt 17 = .ok (.ifCond .eq 15, 3) := by decide +kernel
theorem dX11_interrupt_20 : decode cX11_interrupt 20 = .ok (.iload_n 3, 1) := by decide +kernel
theorem dX11_interrupt_21 : decode cX11_interrupt 21 = .ok (.i2l, 1) := by decide +kernel
theorem dX11_interrupt_22 : decode cX11_interrupt 22 = .ok (.lconst 0, 1) := by decide +kernel
theorem dX11_interrupt_23 : decode cX11_interrupt 23 = .ok (.ldc2_w 164, 3) := by decide +kernel
theorem dX11_interrupt_26 : decode cX11_interrupt 26 = .ok (.invokestatic 95, 3) := by decide +kernel
theorem dX11_interrupt_29 : decode cX11_interrupt 29 = .ok (.ifCond .ne 5, 3) := by decide +kernel
theorem dX11_interrupt_32 : decode cX11_interrupt 32 = .ok (.iconst (-1), 1) := by decide +kernel
theorem dX11_interrupt_33 : decode cX11_interrupt 33 = .ok (.ireturn, 1) := by decide +kernel
theorem dX11_interrupt_34 : decode cX11_interrupt 34 = .ok (.aload_n 0, 1) := by decide +kernel
theorem dX11_interrupt_35 : decode cX11_interrupt 35 = .ok (.getfield 166, 3) := by decide +kernel
theorem dX11_interrupt_38 : decode cX11_interrupt 38 = .ok (.bipush 8, 2) := by decide +kernel
theorem dX11_interrupt_40 : decode cX11_interrupt 40 = .ok (.if_icmp .ne 6, 3) := by decide +kernel
theorem dX11_interrupt_43 : decode cX11_interrupt 43 = .ok (.bipush (-3), 2) := by decide +kernel
theorem dX11_interrupt_45 : decode cX11_interrupt 45 = .ok (.ireturn, 1) := by decide +kernel
theorem dX11_interrupt_46 : decode cX11_interrupt 46 = .ok (.aload_n 0, 1) := by decide +kernel
theorem dX11_interrupt_47 : decode cX11_interrupt 47 = .ok (.getfield 49, 3) := by decide +kernel
theorem dX11_interrupt_50 : decode cX11_interrupt 50 = .ok (.aload_n 0, 1) := by decide +kernel
theorem dX11_interrupt_51 : decode cX11_interrupt 51 = .ok (.getfield 166, 3) := by decide +kernel
theorem dX11_interrupt_54 : decode cX11_interrupt 54 = .ok (.iload_n 1, 1) := by decide +kernel
theorem dX11_interrupt_55 : decode cX11_interrupt 55 = .ok (.iastore, 1) := by decide +kernel
theorem dX11_interrupt_56 : decode cX11_interrupt 56 = .ok (.aload_n 0, 1) := by decide +kernel
theorem dX11_interrupt_57 : decode cX11_interrupt 57 = .ok (.getfield 52, 3) := by decide +kernel
theorem dX11_interrupt_60 : decode cX11_interrupt 60 = .ok (.aload_n 0, 1) := by decide +kernel
theorem dX11_interrupt_61 : decode cX11_interrupt 61 = .ok (.getfield 166, 3) := by decide +kernel
theorem dX11_interrupt_64 : decode cX11_interrupt 64 = .ok (.iload_n 2, 1) := by decide +kernel
theorem dX11_interrupt_65 : decode cX11_interrupt 65 = .ok (.iastore, 1) := by decide +kernel
theorem dX11_interrupt_66 : decode cX11_interrupt 66 = .ok (.aload_n 0, 1) := by decide +kernel
theorem dX11_interrupt_67 : decode cX11_interrupt 67 = .ok (.getfield 55, 3) := by decide +kernel
theorem dX11_interrupt_70 : decode cX11_interrupt 70 = .ok (.aload_n 0, 1) := by decide +kernel
theorem dX11_interrupt_71 : decode cX11_interrupt 71 = .ok (.getfield 166, 3) := by decide +kernel
theorem dX11_interrupt_74 : decode cX11_interrupt 74 = .ok (.iload_n 3, 1) := by decide +kernel
theorem dX11_interrupt_75 : decode cX11_interrupt 75 = .ok (.iastore, 1) := by decide +kernel
theorem dX11_interrupt_76 : decode cX11_interrupt 76 = .ok (.aload_n 0, 1) := by decide +kernel
theorem dX11_interrupt_77 : decode cX11_interrupt 77 = .ok (.dup, 1) := by decide +kernel
theorem dX11_interrupt_78 : decode cX11_interrupt 78 = .ok (.getfield 166, 3) := by decide +kernel
theorem dX11_interrupt_81 : decode cX11_interrupt 81 = .ok (.iconst 1, 1) := by decide +kernel
theorem dX11_interrupt_82 : decode cX11_interrupt 82 = .ok (.iadd, 1) := by decide +kernel
theorem dX11_interrupt_83 : decode cX11_interrupt 83 = .ok (.putfield 166, 3) := by decide +kernel
theorem dX11_interrupt_86 : decode cX11_interrupt 86 = .ok (.aload_n 0, 1) := by decide +kernel
theorem dX11_interrupt_87 : decode cX11_interrupt 87 = .ok (.getfield 166, 3) := by decide +kernel
theorem dX11_interrupt_90 : decode cX11_interrupt 90 = .ok (.iconst 1, 1) := by decide +kernel
theorem dX11_interrupt_91 : decode cX11_interrupt 91 = .ok (.isub, 1) := by decide +kernel
theorem dX11_interrupt_92 : decode cX11_interrupt 92 = .ok (.ireturn, 1) := by decide +kernel
theorem dX11_task_0 : decode cX11_task 0 = .ok (.aload_n 0, 1) := by decide +kernel
theorem dX11_task_1 : decode cX11_task 1 = .ok (.iload_n 1, 1) := by decide +kernel
theorem dX11_task_2 : decode cX11_task 2 = .ok (.invokevirtual 103, 3) := by decide +kernel
theorem dX11_task_5 : decode cX11_task 5 = .ok (.ifCond .eq 27, 3) := by decide +kernel
theorem dX11_task_8 : decode cX11_task 8 = .ok (.iload_n 2, 1) := by decide +kernel
theorem dX11_task_9 : decode cX11_task 9 = .ok (.i2l, 1) := by decide +kernel
theorem dX11_task_10 : decode cX11_task 10 = .ok (.lconst 0, 1) := by decide +kernel
theorem dX11_task_11 : decode cX11_task 11 = .ok (.ldc2_w 99, 3) := by decide +kernel
theorem dX11_task_14 : decode cX11_task 14 = .ok (.invokestatic 95, 3) := by decide +kernel
theorem dX11_task_17 : decode cX11_task 17 = .ok (.ifCond .eq 15, 3) := by decide +kernel
theorem dX11_task_20 : decode cX11_task 20 = .ok (.iload_n 3, 1) := by decide +kernel
theorem dX11_task_21 : decode cX11_task 21 = .ok (.i2l, 1) := by decide +kernel
theorem dX11_task_22 : decode cX11_task 22 = .ok (.lconst 0, 1) := by decide +kernel
theorem dX11_task_23 : decode cX11_task 23 = .ok (.ldc2_w 164, 3) := by decide +kernel
theorem dX11_task_26 : decode cX11_task 26 = .ok (.invokestatic 95, 3) := by decide +kernel
theorem dX11_task_29 : decode cX11_task 29 = .ok (.ifCond .ne 5, 3) := by decide +kernel
theorem dX11_task_32 : decode cX11_task 32 = .ok (.iconst (-1), 1) := by decide +kernel
theorem dX11_task_33 : decode cX11_task 33 = .ok (.ireturn, 1) := by decide +kernel
theorem dX11_task_34 : decode cX11_task 34 = .ok (.aload_n 0, 1) := by decide +kernel
theorem dX11_task_35 : decode cX11_task 35 = .ok (.getfield 169, 3) := by decide +kernel
theorem dX11_task_38 : decode cX11_task 38 = .ok (.bipush 6, 2) := by decide +kernel
theorem dX11_task_40 : decode cX11_task 40 = .ok (.if_icmp .ne 6, 3) := by decide +kernel
theorem dX11_task_43 : decode cX11_task 43 = .ok (.bipush (-3), 2) := by decide +kernel
theorem dX11_task_45 : decode cX11_task 45 = .ok (.ireturn, 1) := by decide +kernel
theorem dX11_task_46 : decode cX11_task 46 = .ok (.aload_n 0, 1) := by decide +kernel
theorem dX11_task_47 : decode cX11_task 47 = .ok (.getfield 58, 3) := by decide +kernel
theorem dX11_task_50 : decode cX11_task 50 = .ok (.aload_n 0, 1) := by decide +kernel
theorem dX11_task_51 : decode cX11_task 51 = .ok (.getfield 169, 3) := by decide +kernel
theorem dX11_task_54 : decode cX11_task 54 = .ok (.iload_n 1, 1) := by decide +kernel
theorem dX11_task_55 : decode cX11_task 55 = .ok (.iastore, 1) := by decide +kernel
theorem dX11_task_56 : decode cX11_task 56 = .ok (.aload_n 0, 1) := by decide +kernel
theorem dX11_task_57 : decode cX11_task 57 = .ok (.getfield 61, 3) := by decide +kernel
theorem dX11_task_60 : decode cX11_task 60 = .ok (.aload_n 0, 1) := by decide +kernel
theorem dX11_task_61 : decode cX11_task 61 = .ok (.getfield 169, 3) := by decide +kernel
theorem dX11_task_64 : decode cX11_task 64 = .ok (.iload_n 2, 1) := by decide +kernel
theorem dX11_task_65 : decode cX11_task 65 = .ok (.iastore, 1) := by decide +kernel
theorem dX11_task_66 : decode cX11_task 66 = .ok (.aload_n 0, 1) := by decide +kernel
theorem dX11_task_67 : decode cX11_task 67 = .ok (.getfield 64, 3) := by decide +kernel
theorem dX11_task_70 : decode cX11_task 70 = .ok (.aload_n 0, 1) := by decide +kernel
theorem dX11_task_71 : decode cX11_task 71 = .ok (.getfield 169, 3) := by decide +kernel
theorem dX11_task_74 : decode cX11_task 74 = .ok (.iload_n 3, 1) := by decide +kernel
theorem dX11_task_75 : decode cX11_task 75 = .ok (.iastore, 1) := by decide +kernel
theorem dX11_task_76 : decode cX11_task 76 = .ok (.aload_n 0, 1) := by decide +kernel
theorem dX11_task_77 : decode cX11_task 77 = .ok (.dup, 1) := by decide +kernel
theorem dX11_task_78 : decode cX11_task 78 = .ok (.getfield 169, 3) := by decide +kernel
theorem dX11_task_81 : decode cX11_task 81 = .ok (.iconst 1, 1) := by decide +kernel
theorem dX11_task_82 : decode cX11_task 82 = .ok (.iadd, 1) := by decide +kernel
theorem dX11_task_83 : decode cX11_task 83 = .ok (.putfield 169, 3) := by decide +kernel
theorem dX11_task_86 : decode cX11_task 86 = .ok (.aload_n 0, 1) := by decide +kernel
theorem dX11_task_87 : decode cX11_task 87 = .ok (.getfield 169, 3) := by decide +kernel
theorem dX11_task_90 : decode cX11_task 90 = .ok (.iconst 1, 1) := by decide +kernel
theorem dX11_task_91 : decode cX11_task 91 = .ok (.isub, 1) := by decide +kernel
theorem dX11_task_92 : decode cX11_task 92 = .ok (.ireturn, 1) := by decide +kernel
theorem dX11_isTask_0 : decode cX11_isTask 0 = .ok (.iload_n 1, 1) := by decide +kernel
theorem dX11_isTask_1 : decode cX11_isTask 1 = .ok (.i2l, 1) := by decide +kernel
theorem dX11_isTask_2 : decode cX11_isTask 2 = .ok (.lconst 0, 1) := by decide +kernel
theorem dX11_isTask_3 : decode cX11_isTask 3 = .ok (.aload_n 0, 1) := by decide +kernel
theorem dX11_isTask_4 : decode cX11_isTask 4 = .ok (.getfield 169, 3) := by decide +kernel
theorem dX11_isTask_7 : decode cX11_isTask 7 = .ok (.iconst 1, 1) := by decide +kernel
theorem dX11_isTask_8 : decode cX11_isTask 8 = .ok (.isub, 1) := by decide +kernel
theorem dX11_isTask_9 : decode cX11_isTask 9 = .ok (.i2l, 1) := by decide +kernel
theorem dX11_isTask_10 : decode cX11_isTask 10 = .ok (.invokestatic 95, 3) := by decide +kernel
theorem dX11_isTask_13 : decode cX11_isTask 13 = .ok (.ireturn, 1) := by decide +kernel
theorem dX11_top_0 : decode cX11_top 0 = .ok (.iconst 0, 1) := by decide +kernel
theorem dX11_top_1 : decode cX11_top 1 = .ok (.istore_n 2, 1) := by decide +kernel
theorem dX11_top_2 : decode cX11_top 2 = .ok (.aload_n 0, 1) := by decide +kernel
theorem dX11_top_3 : decode cX11_top 3 = .ok (.getfield 61, 3) := by decide +kernel
theorem dX11_top_6 : decode cX11_top 6 = .ok (.iload_n 1, 1) := by decide +kernel
theorem dX11_top_7 : decode cX11_top 7 = .ok (.iaload, 1) := by decide +kernel
theorem dX11_top_8 : decode cX11_top 8 = .ok (.iconst 1, 1) := by decide +kernel
theorem dX11_top_9 : decode cX11_top 9 = .ok (.iadd, 1) := by decide +kernel
theorem dX11_top_10 : decode cX11_top 10 = .ok (.istore_n 3, 1) := by decide +kernel
theorem dX11_top_11 : decode cX11_top 11 = .ok (.iload_n 3, 1) := by decide +kernel
theorem dX11_top_12 : decode cX11_top 12 = .ok (.bipush 8, 2) := by decide +kernel
theorem dX11_top_14 : decode cX11_top 14 = .ok (.if_icmp .ge 102, 3) := by decide +kernel
theorem dX11_top_17 : decode cX11_top 17 = .ok (.iconst 0, 1) := by decide +kernel
theorem dX11_top_18 : decode cX11_top 18 = .ok (.istore 4, 2) := by decide +kernel
theorem dX11_top_20 : decode cX11_top 20 = .ok (.iconst 0, 1) := by decide +kernel
theorem dX11_top_21 : decode cX11_top 21 = .ok (.istore 5, 2) := by decide +kernel
theorem dX11_top_23 : decode cX11_top 23 = .ok (.iload 5, 2) := by decide +kernel
theorem dX11_top_25 : decode cX11_top 25 = .ok (.aload_n 0, 1) := by decide +kernel
theorem dX11_top_26 : decode cX11_top 26 = .ok (.getfield 166, 3) := by decide +kernel
theorem dX11_top_29 : decode cX11_top 29 = .ok (.if_icmp .ge 76, 3) := by decide +kernel
theorem dX11_top_32 : decode cX11_top 32 = .ok (.aload_n 0, 1) := by decide +kernel
theorem dX11_top_33 : decode cX11_top 33 = .ok (.getfield 49, 3) := by decide +kernel
theorem dX11_top_36 : decode cX11_top 36 = .ok (.iload 5, 2) := by decide +kernel
theorem dX11_top_38 : decode cX11_top 38 = .ok (.iaload, 1) := by decide +kernel
theorem dX11_top_39 : decode cX11_top 39 = .ok (.iload_n 3, 1) := by decide +kernel
theorem dX11_top_40 : decode cX11_top 40 = .ok (.if_icmp .ne 59, 3) := by decide +kernel
theorem dX11_top_43 : decode cX11_top 43 = .ok (.aload_n 0, 1) := by decide +kernel
theorem dX11_top_44 : decode cX11_top 44 = .ok (.getfield 46, 3) := by decide +kernel
theorem dX11_top_47 : decode cX11_top 47 = .ok (.aload_n 0, 1) := by decide +kernel
theorem dX11_top_48 : decode cX11_top 48 = .ok (.getfield 52, 3) := by decide +kernel
theorem dX11_top_51 : decode cX11_top 51 = .ok (.iload 5, 2) := by decide +kernel
theorem dX11_top_53 : decode cX11_top 53 = .ok (.iaload, 1) := by decide +kernel
theorem dX11_top_54 : decode cX11_top 54 = .ok (.iaload, 1) := by decide +kernel
theorem dX11_top_55 : decode cX11_top 55 = .ok (.istore 6, 2) := by decide +kernel
theorem dX11_top_57 : decode cX11_top 57 = .ok (.iload 6, 2) := by decide +kernel
theorem dX11_top_59 : decode cX11_top 59 = .ok (.bipush (-5), 2) := by decide +kernel
theorem dX11_top_61 : decode cX11_top 61 = .ok (.if_icmp .ne 6, 3) := by decide +kernel
theorem dX11_top_64 : decode cX11_top 64 = .ok (.bipush (-5), 2) := by decide +kernel
theorem dX11_top_66 : decode cX11_top 66 = .ok (.ireturn, 1) := by decide +kernel
theorem dX11_top_67 : decode cX11_top 67 = .ok (.aload_n 0, 1) := by decide +kernel
theorem dX11_top_68 : decode cX11_top 68 = .ok (.getfield 55, 3) := by decide +kernel
theorem dX11_top_71 : decode cX11_top 71 = .ok (.iload 5, 2) := by decide +kernel
theorem dX11_top_73 : decode cX11_top 73 = .ok (.iaload, 1) := by decide +kernel
theorem dX11_top_74 : decode cX11_top 74 = .ok (.iload 6, 2) := by decide +kernel
theorem dX11_top_76 : decode cX11_top 76 = .ok (.iadd, 1) := by decide +kernel
theorem dX11_top_77 : decode cX11_top 77 = .ok (.iload 4, 2) := by decide +kernel
theorem dX11_top_79 : decode cX11_top 79 = .ok (.if_icmp .le 16, 3) := by decide +kernel
theorem dX11_top_82 : decode cX11_top 82 = .ok (.aload_n 0, 1) := by decide +kernel
theorem dX11_top_83 : decode cX11_top 83 = .ok (.getfield 55, 3) := by decide +kernel
theorem dX11_top_86 : decode cX11_top 86 = .ok (.iload 5, 2) := by decide +kernel
theorem dX11_top_88 : decode cX11_top 88 = .ok (.iaload, 1) := by decide +kernel
theorem dX11_top_89 : decode cX11_top 89 = .ok (.iload 6, 2) := by decide +kernel
theorem dX11_top_91 : decode cX11_top 91 = .ok (.iadd, 1) := by decide +kernel
theorem dX11_top_92 : decode cX11_top 92 = .ok (.goto 5, 3) := by decide +kernel
theorem dX11_top_95 : decode cX11_top 95 = .ok (.iload 4, 2) := by decide +kernel
theorem dX11_top_97 : decode cX11_top 97 = .ok (.istore 4, 2) := by decide +kernel
theorem dX11_top_99 : decode cX11_top 99 = .ok (.iinc 5 1, 3) := by decide +kernel
theorem dX11_top_102 : decode cX11_top 102 = .ok (.goto (-79), 3) := by decide +kernel
theorem dX11_top_105 : decode cX11_top 105 = .ok (.iload_n 2, 1) := by decide +kernel
theorem dX11_top_106 : decode cX11_top 106 = .ok (.iload 4, 2) := by decide +kernel
theorem dX11_top_108 : decode cX11_top 108 = .ok (.iadd, 1) := by decide +kernel
theorem dX11_top_109 : decode cX11_top 109 = .ok (.istore_n 2, 1) := by decide +kernel
theorem dX11_top_110 : decode cX11_top 110 = .ok (.iinc 3 1, 3) := by decide +kernel
theorem dX11_top_113 : decode cX11_top 113 = .ok (.goto (-102), 3) := by decide +kernel
theorem dX11_top_116 : decode cX11_top 116 = .ok (.iload_n 2, 1) := by decide +kernel
theorem dX11_top_117 : decode cX11_top 117 = .ok (.ireturn, 1) := by decide +kernel
theorem dX11_totalOf_0 : decode cX11_totalOf 0 = .ok (.aload_n 0, 1) := by decide +kernel
theorem dX11_totalOf_1 : decode cX11_totalOf 1 = .ok (.getfield 46, 3) := by decide +kernel
theorem dX11_totalOf_4 : decode cX11_totalOf 4 = .ok (.aload_n 0, 1) := by decide +kernel
theorem dX11_totalOf_5 : decode cX11_totalOf 5 = .ok (.getfield 58, 3) := by decide +kernel
theorem dX11_totalOf_8 : decode cX11_totalOf 8 = .ok (.iload_n 1, 1) := by decide +kernel
theorem dX11_totalOf_9 : decode cX11_totalOf 9 = .ok (.iaload, 1) := by decide +kernel
theorem dX11_totalOf_10 : decode cX11_totalOf 10 = .ok (.iaload, 1) := by decide +kernel
theorem dX11_totalOf_11 : decode cX11_totalOf 11 = .ok (.istore_n 2, 1) := by decide +kernel
theorem dX11_totalOf_12 : decode cX11_totalOf 12 = .ok (.aload_n 0, 1) := by decide +kernel
theorem dX11_totalOf_13 : decode cX11_totalOf 13 = .ok (.iload_n 1, 1) := by decide +kernel
theorem dX11_totalOf_14 : decode cX11_totalOf 14 = .ok (.invokevirtual 172, 3) := by decide +kernel
theorem dX11_totalOf_17 : decode cX11_totalOf 17 = .ok (.istore_n 3, 1) := by decide +kernel
theorem dX11_totalOf_18 : decode cX11_totalOf 18 = .ok (.iload_n 2, 1) := by decide +kernel
theorem dX11_totalOf_19 : decode cX11_totalOf 19 = .ok (.bipush (-5), 2) := by decide +kernel
theorem dX11_totalOf_21 : decode cX11_totalOf 21 = .ok (.if_icmp .eq 9, 3) := by decide +kernel
theorem dX11_totalOf_24 : decode cX11_totalOf 24 = .ok (.iload_n 3, 1) := by decide +kernel
theorem dX11_totalOf_25 : decode cX11_totalOf 25 = .ok (.bipush (-5), 2) := by decide +kernel
theorem dX11_totalOf_27 : decode cX11_totalOf 27 = .ok (.if_icmp .ne 8, 3) := by decide +kernel
theorem dX11_totalOf_30 : decode cX11_totalOf 30 = .ok (.bipush (-5), 2) := by decide +kernel
theorem dX11_totalOf_32 : decode cX11_totalOf 32 = .ok (.goto 6, 3) := by decide +kernel
theorem dX11_totalOf_35 : decode cX11_totalOf 35 = .ok (.iload_n 2, 1) := by decide +kernel
theorem dX11_totalOf_36 : decode cX11_totalOf 36 = .ok (.iload_n 3, 1) := by decide +kernel
theorem dX11_totalOf_37 : decode cX11_totalOf 37 = .ok (.iadd, 1) := by decide +kernel
theorem dX11_totalOf_38 : decode cX11_totalOf 38 = .ok (.ireturn, 1) := by decide +kernel
theorem dX11_total_0 : decode cX11_total 0 = .ok (.aload_n 0, 1) := by decide +kernel
theorem dX11_total_1 : decode cX11_total 1 = .ok (.iload_n 1, 1) := by decide +kernel
theorem dX11_total_2 : decode cX11_total 2 = .ok (.invokevirtual 175, 3) := by decide +kernel
theorem dX11_total_5 : decode cX11_total 5 = .ok (.ifCond .eq 15, 3) := by decide +kernel
theorem dX11_total_8 : decode cX11_total 8 = .ok (.iload_n 2, 1) := by decide +kernel
theorem dX11_total_9 : decode cX11_total 9 = .ok (.i2l, 1) := by decide +kernel
theorem dX11_total_10 : decode cX11_total 10 = .ok (.lconst 0, 1) := by decide +kernel
theorem dX11_total_11 : decode cX11_total 11 = .ok (.ldc2_w 112, 3) := by decide +kernel
theorem dX11_total_14 : decode cX11_total 14 = .ok (.invokestatic 95, 3) := by decide +kernel
theorem dX11_total_17 : decode cX11_total 17 = .ok (.ifCond .ne 5, 3) := by decide +kernel
theorem dX11_total_20 : decode cX11_total 20 = .ok (.iconst (-1), 1) := by decide +kernel
theorem dX11_total_21 : decode cX11_total 21 = .ok (.ireturn, 1) := by decide +kernel
theorem dX11_total_22 : decode cX11_total 22 = .ok (.aload_n 0, 1) := by decide +kernel
theorem dX11_total_23 : decode cX11_total 23 = .ok (.invokevirtual 155, 3) := by decide +kernel
theorem dX11_total_26 : decode cX11_total 26 = .ok (.aload_n 0, 1) := by decide +kernel
theorem dX11_total_27 : decode cX11_total 27 = .ok (.iload_n 1, 1) := by decide +kernel
theorem dX11_total_28 : decode cX11_total 28 = .ok (.invokevirtual 178, 3) := by decide +kernel
theorem dX11_total_31 : decode cX11_total 31 = .ok (.istore_n 3, 1) := by decide +kernel
theorem dX11_total_32 : decode cX11_total 32 = .ok (.iload_n 2, 1) := by decide +kernel
theorem dX11_total_33 : decode cX11_total 33 = .ok (.ifCond .ne 17, 3) := by decide +kernel
theorem dX11_total_36 : decode cX11_total 36 = .ok (.aload_n 0, 1) := by decide +kernel
theorem dX11_total_37 : decode cX11_total 37 = .ok (.getfield 46, 3) := by decide +kernel
theorem dX11_total_40 : decode cX11_total 40 = .ok (.aload_n 0, 1) := by decide +kernel
theorem dX11_total_41 : decode cX11_total 41 = .ok (.getfield 58, 3) := by decide +kernel
theorem dX11_total_44 : decode cX11_total 44 = .ok (.iload_n 1, 1) := by decide +kernel
theorem dX11_total_45 : decode cX11_total 45 = .ok (.iaload, 1) := by decide +kernel
theorem dX11_total_46 : decode cX11_total 46 = .ok (.iaload, 1) := by decide +kernel
theorem dX11_total_47 : decode cX11_total 47 = .ok (.goto 39, 3) := by decide +kernel
theorem dX11_total_50 : decode cX11_total 50 = .ok (.iload_n 2, 1) := by decide +kernel
theorem dX11_total_51 : decode cX11_total 51 = .ok (.iconst 1, 1) := by decide +kernel
theorem dX11_total_52 : decode cX11_total 52 = .ok (.if_icmp .ne 11, 3) := by decide +kernel
theorem dX11_total_55 : decode cX11_total 55 = .ok (.aload_n 0, 1) := by decide +kernel
theorem dX11_total_56 : decode cX11_total 56 = .ok (.iload_n 1, 1) := by decide +kernel
theorem dX11_total_57 : decode cX11_total 57 = .ok (.invokevirtual 172, 3) := by decide +kernel
theorem dX11_total_60 : decode cX11_total 60 = .ok (.goto 26, 3) := by decide +kernel
theorem dX11_total_63 : decode cX11_total 63 = .ok (.iload_n 2, 1) := by decide +kernel
theorem dX11_total_64 : decode cX11_total 64 = .ok (.iconst 2, 1) := by decide +kernel
theorem dX11_total_65 : decode cX11_total 65 = .ok (.if_icmp .eq 9, 3) := by decide +kernel
theorem dX11_total_68 : decode cX11_total 68 = .ok (.iload_n 3, 1) := by decide +kernel
theorem dX11_total_69 : decode cX11_total 69 = .ok (.bipush (-5), 2) := by decide +kernel
theorem dX11_total_71 : decode cX11_total 71 = .ok (.if_icmp .ne 7, 3) := by decide +kernel
theorem dX11_total_74 : decode cX11_total 74 = .ok (.iload_n 3, 1) := by decide +kernel
theorem dX11_total_75 : decode cX11_total 75 = .ok (.goto 11, 3) := by decide +kernel
theorem dX11_total_78 : decode cX11_total 78 = .ok (.iload_n 3, 1) := by decide +kernel
theorem dX11_total_79 : decode cX11_total 79 = .ok (.aload_n 0, 1) := by decide +kernel
theorem dX11_total_80 : decode cX11_total 80 = .ok (.getfield 64, 3) := by decide +kernel
theorem dX11_total_83 : decode cX11_total 83 = .ok (.iload_n 1, 1) := by decide +kernel
theorem dX11_total_84 : decode cX11_total 84 = .ok (.iaload, 1) := by decide +kernel
theorem dX11_total_85 : decode cX11_total 85 = .ok (.iadd, 1) := by decide +kernel
theorem dX11_total_86 : decode cX11_total 86 = .ok (.ireturn, 1) := by decide +kernel
theorem dX11_apart_0 : decode cX11_apart 0 = .ok (.aload_n 0, 1) := by decide +kernel
theorem dX11_apart_1 : decode cX11_apart 1 = .ok (.iload_n 1, 1) := by decide +kernel
theorem dX11_apart_2 : decode cX11_apart 2 = .ok (.invokevirtual 175, 3) := by decide +kernel
theorem dX11_apart_5 : decode cX11_apart 5 = .ok (.ifCond .eq 16, 3) := by decide +kernel
theorem dX11_apart_8 : decode cX11_apart 8 = .ok (.aload_n 0, 1) := by decide +kernel
theorem dX11_apart_9 : decode cX11_apart 9 = .ok (.iload_n 2, 1) := by decide +kernel
theorem dX11_apart_10 : decode cX11_apart 10 = .ok (.invokevirtual 175, 3) := by decide +kernel
theorem dX11_apart_13 : decode cX11_apart 13 = .ok (.ifCond .eq 8, 3) := by decide +kernel
theorem dX11_apart_16 : decode cX11_apart 16 = .ok (.iload_n 1, 1) := by decide +kernel
theorem dX11_apart_17 : decode cX11_apart 17 = .ok (.iload_n 2, 1) := by decide +kernel
theorem dX11_apart_18 : decode cX11_apart 18 = .ok (.if_icmp .ne 5, 3) := by decide +kernel
theorem dX11_apart_21 : decode cX11_apart 21 = .ok (.iconst (-1), 1) := by decide +kernel
theorem dX11_apart_22 : decode cX11_apart 22 = .ok (.ireturn, 1) := by decide +kernel
theorem dX11_apart_23 : decode cX11_apart 23 = .ok (.aload_n 0, 1) := by decide +kernel
theorem dX11_apart_24 : decode cX11_apart 24 = .ok (.getfield 67, 3) := by decide +kernel
theorem dX11_apart_27 : decode cX11_apart 27 = .ok (.iload_n 1, 1) := by decide +kernel
theorem dX11_apart_28 : decode cX11_apart 28 = .ok (.iaload, 1) := by decide +kernel
theorem dX11_apart_29 : decode cX11_apart 29 = .ok (.iload_n 2, 1) := by decide +kernel
theorem dX11_apart_30 : decode cX11_apart 30 = .ok (.ishr, 1) := by decide +kernel
theorem dX11_apart_31 : decode cX11_apart 31 = .ok (.iconst 1, 1) := by decide +kernel
theorem dX11_apart_32 : decode cX11_apart 32 = .ok (.iand, 1) := by decide +kernel
theorem dX11_apart_33 : decode cX11_apart 33 = .ok (.istore 4, 2) := by decide +kernel
theorem dX11_apart_35 : decode cX11_apart 35 = .ok (.aload_n 0, 1) := by decide +kernel
theorem dX11_apart_36 : decode cX11_apart 36 = .ok (.getfield 67, 3) := by decide +kernel
theorem dX11_apart_39 : decode cX11_apart 39 = .ok (.iload_n 1, 1) := by decide +kernel
theorem dX11_apart_40 : decode cX11_apart 40 = .ok (.iload_n 3, 1) := by decide +kernel
theorem dX11_apart_41 : decode cX11_apart 41 = .ok (.ifCond .eq 16, 3) := by decide +kernel
theorem dX11_apart_44 : decode cX11_apart 44 = .ok (.aload_n 0, 1) := by decide +kernel
theorem dX11_apart_45 : decode cX11_apart 45 = .ok (.getfield 67, 3) := by decide +kernel
theorem dX11_apart_48 : decode cX11_apart 48 = .ok (.iload_n 1, 1) := by decide +kernel
theorem dX11_apart_49 : decode cX11_apart 49 = .ok (.iaload, 1) := by decide +kernel
theorem dX11_apart_50 : decode cX11_apart 50 = .ok (.iconst 1, 1) := by decide +kernel
theorem dX11_apart_51 : decode cX11_apart 51 = .ok (.iload_n 2, 1) := by decide +kernel
theorem dX11_apart_52 : decode cX11_apart 52 = .ok (.ishl, 1) := by decide +kernel
theorem dX11_apart_53 : decode cX11_apart 53 = .ok (.ior, 1) := by decide +kernel
theorem dX11_apart_54 : decode cX11_apart 54 = .ok (.goto 15, 3) := by decide +kernel
theorem dX11_apart_57 : decode cX11_apart 57 = .ok (.aload_n 0, 1) := by decide +kernel
theorem dX11_apart_58 : decode cX11_apart 58 = .ok (.getfield 67, 3) := by decide +kernel
theorem dX11_apart_61 : decode cX11_apart 61 = .ok (.iload_n 1, 1) := by decide +kernel
theorem dX11_apart_62 : decode cX11_apart 62 = .ok (.iaload, 1) := by decide +kernel
theorem dX11_apart_63 : decode cX11_apart 63 = .ok (.iconst 1, 1) := by decide +kernel
theorem dX11_apart_64 : decode cX11_apart 64 = .ok (.iload_n 2, 1) := by decide +kernel
theorem dX11_apart_65 : decode cX11_apart 65 = .ok (.ishl, 1) := by decide +kernel
theorem dX11_apart_66 : decode cX11_apart 66 = .ok (.iconst (-1), 1) := by decide +kernel
theorem dX11_apart_67 : decode cX11_apart 67 = .ok (.ixor, 1) := by decide +kernel
theorem dX11_apart_68 : decode cX11_apart 68 = .ok (.iand, 1) := by decide +kernel
theorem dX11_apart_69 : decode cX11_apart 69 = .ok (.iastore, 1) := by decide +kernel
theorem dX11_apart_70 : decode cX11_apart 70 = .ok (.aload_n 0, 1) := by decide +kernel
theorem dX11_apart_71 : decode cX11_apart 71 = .ok (.getfield 67, 3) := by decide +kernel
theorem dX11_apart_74 : decode cX11_apart 74 = .ok (.iload_n 2, 1) := by decide +kernel
theorem dX11_apart_75 : decode cX11_apart 75 = .ok (.iload_n 3, 1) := by decide +kernel
theorem dX11_apart_76 : decode cX11_apart 76 = .ok (.ifCond .eq 16, 3) := by decide +kernel
theorem dX11_apart_79 : decode cX11_apart 79 = .ok (.aload_n 0, 1) := by decide +kernel
theorem dX11_apart_80 : decode cX11_apart 80 = .ok (.getfield 67, 3) := by decide +kernel
theorem dX11_apart_83 : decode cX11_apart 83 = .ok (.iload_n 2, 1) := by decide +kernel
theorem dX11_apart_84 : decode cX11_apart 84 = .ok (.iaload, 1) := by decide +kernel
theorem dX11_apart_85 : decode cX11_apart 85 = .ok (.iconst 1, 1) := by decide +kernel
theorem dX11_apart_86 : decode cX11_apart 86 = .ok (.iload_n 1, 1) := by decide +kernel
theorem dX11_apart_87 : decode cX11_apart 87 = .ok (.ishl, 1) := by decide +kernel
theorem dX11_apart_88 : decode cX11_apart 88 = .ok (.ior, 1) := by decide +kernel
theorem dX11_apart_89 : decode cX11_apart 89 = .ok (.goto 15, 3) := by decide +kernel
theorem dX11_apart_92 : decode cX11_apart 92 = .ok (.aload_n 0, 1) := by decide +kernel
theorem dX11_apart_93 : decode cX11_apart 93 = .ok (.getfield 67, 3) := by decide +kernel
theorem dX11_apart_96 : decode cX11_apart 96 = .ok (.iload_n 2, 1) := by decide +kernel
theorem dX11_apart_97 : decode cX11_apart 97 = .ok (.iaload, 1) := by decide +kernel
theorem dX11_apart_98 : decode cX11_apart 98 = .ok (.iconst 1, 1) := by decide +kernel
theorem dX11_apart_99 : decode cX11_apart 99 = .ok (.iload_n 1, 1) := by decide +kernel
theorem dX11_apart_100 : decode cX11_apart 100 = .ok (.ishl, 1) := by decide +kernel
theorem dX11_apart_101 : decode cX11_apart 101 = .ok (.iconst (-1), 1) := by decide +kernel
theorem dX11_apart_102 : decode cX11_apart 102 = .ok (.ixor, 1) := by decide +kernel
theorem dX11_apart_103 : decode cX11_apart 103 = .ok (.iand, 1) := by decide +kernel
theorem dX11_apart_104 : decode cX11_apart 104 = .ok (.iastore, 1) := by decide +kernel
theorem dX11_apart_105 : decode cX11_apart 105 = .ok (.iload 4, 2) := by decide +kernel
theorem dX11_apart_107 : decode cX11_apart 107 = .ok (.ireturn, 1) := by decide +kernel
theorem dX11_sumOf_0 : decode cX11_sumOf 0 = .ok (.iconst 0, 1) := by decide +kernel
theorem dX11_sumOf_1 : decode cX11_sumOf 1 = .ok (.istore_n 1, 1) := by decide +kernel
theorem dX11_sumOf_2 : decode cX11_sumOf 2 = .ok (.iconst 0, 1) := by decide +kernel
theorem dX11_sumOf_3 : decode cX11_sumOf 3 = .ok (.istore_n 2, 1) := by decide +kernel
theorem dX11_sumOf_4 : decode cX11_sumOf 4 = .ok (.iload_n 2, 1) := by decide +kernel
theorem dX11_sumOf_5 : decode cX11_sumOf 5 = .ok (.aload_n 0, 1) := by decide +kernel
theorem dX11_sumOf_6 : decode cX11_sumOf 6 = .ok (.getfield 169, 3) := by decide +kernel
theorem dX11_sumOf_9 : decode cX11_sumOf 9 = .ok (.if_icmp .ge 118, 3) := by decide +kernel
theorem dX11_sumOf_12 : decode cX11_sumOf 12 = .ok (.iconst 0, 1) := by decide +kernel
theorem dX11_sumOf_13 : decode cX11_sumOf 13 = .ok (.istore_n 3, 1) := by decide +kernel
theorem dX11_sumOf_14 : decode cX11_sumOf 14 = .ok (.iconst 0, 1) := by decide +kernel
theorem dX11_sumOf_15 : decode cX11_sumOf 15 = .ok (.istore 4, 2) := by decide +kernel
theorem dX11_sumOf_17 : decode cX11_sumOf 17 = .ok (.iload 4, 2) := by decide +kernel
theorem dX11_sumOf_19 : decode cX11_sumOf 19 = .ok (.aload_n 0, 1) := by decide +kernel
theorem dX11_sumOf_20 : decode cX11_sumOf 20 = .ok (.getfield 169, 3) := by decide +kernel
theorem dX11_sumOf_23 : decode cX11_sumOf 23 = .ok (.if_icmp .ge 94, 3) := by decide +kernel
theorem dX11_sumOf_26 : decode cX11_sumOf 26 = .ok (.aload_n 0, 1) := by decide +kernel
theorem dX11_sumOf_27 : decode cX11_sumOf 27 = .ok (.getfield 70, 3) := by decide +kernel
theorem dX11_sumOf_30 : decode cX11_sumOf 30 = .ok (.iload 4, 2) := by decide +kernel
theorem dX11_sumOf_32 : decode cX11_sumOf 32 = .ok (.iaload, 1) := by decide +kernel
theorem dX11_sumOf_33 : decode cX11_sumOf 33 = .ok (.iload_n 2, 1) := by decide +kernel
theorem dX11_sumOf_34 : decode cX11_sumOf 34 = .ok (.if_icmp .ne 77, 3) := by decide +kernel
theorem dX11_sumOf_37 : decode cX11_sumOf 37 = .ok (.aload_n 0, 1) := by decide +kernel
theorem dX11_sumOf_38 : decode cX11_sumOf 38 = .ok (.iload 4, 2) := by decide +kernel
theorem dX11_sumOf_40 : decode cX11_sumOf 40 = .ok (.invokevirtual 178, 3) := by decide +kernel
theorem dX11_sumOf_43 : decode cX11_sumOf 43 = .ok (.aload_n 0, 1) := by decide +kernel
theorem dX11_sumOf_44 : decode cX11_sumOf 44 = .ok (.getfield 64, 3) := by decide +kernel
theorem dX11_sumOf_47 : decode cX11_sumOf 47 = .ok (.iload 4, 2) := by decide +kernel
theorem dX11_sumOf_49 : decode cX11_sumOf 49 = .ok (.iaload, 1) := by decide +kernel
theorem dX11_sumOf_50 : decode cX11_sumOf 50 = .ok (.iadd, 1) := by decide +kernel
theorem dX11_sumOf_51 : decode cX11_sumOf 51 = .ok (.istore 5, 2) := by decide +kernel
theorem dX11_sumOf_53 : decode cX11_sumOf 53 = .ok (.iload 5, 2) := by decide +kernel
theorem dX11_sumOf_55 : decode cX11_sumOf 55 = .ok (.iload_n 3, 1) := by decide +kernel
theorem dX11_sumOf_56 : decode cX11_sumOf 56 = .ok (.if_icmp .le 8, 3) := by decide +kernel
theorem dX11_sumOf_59 : decode cX11_sumOf 59 = .ok (.iload 5, 2) := by decide +kernel
theorem dX11_sumOf_61 : decode cX11_sumOf 61 = .ok (.goto 4, 3) := by decide +kernel
theorem dX11_sumOf_64 : decode cX11_sumOf 64 = .ok (.iload_n 3, 1) := by decide +kernel
theorem dX11_sumOf_65 : decode cX11_sumOf 65 = .ok (.istore_n 3, 1) := by decide +kernel
theorem dX11_sumOf_66 : decode cX11_sumOf 66 = .ok (.iconst 0, 1) := by decide +kernel
theorem dX11_sumOf_67 : decode cX11_sumOf 67 = .ok (.istore 6, 2) := by decide +kernel
theorem dX11_sumOf_69 : decode cX11_sumOf 69 = .ok (.iload 6, 2) := by decide +kernel
theorem dX11_sumOf_71 : decode cX11_sumOf 71 = .ok (.iload 4, 2) := by decide +kernel
theorem dX11_sumOf_73 : decode cX11_sumOf 73 = .ok (.if_icmp .ge 38, 3) := by decide +kernel
theorem dX11_sumOf_76 : decode cX11_sumOf 76 = .ok (.aload_n 0, 1) := by decide +kernel
theorem dX11_sumOf_77 : decode cX11_sumOf 77 = .ok (.getfield 70, 3) := by decide +kernel
theorem dX11_sumOf_80 : decode cX11_sumOf 80 = .ok (.iload 6, 2) := by decide +kernel
theorem dX11_sumOf_82 : decode cX11_sumOf 82 = .ok (.iaload, 1) := by decide +kernel
theorem dX11_sumOf_83 : decode cX11_sumOf 83 = .ok (.iload_n 2, 1) := by decide +kernel
theorem dX11_sumOf_84 : decode cX11_sumOf 84 = .ok (.if_icmp .ne 21, 3) := by decide +kernel
theorem dX11_sumOf_87 : decode cX11_sumOf 87 = .ok (.aload_n 0, 1) := by decide +kernel
theorem dX11_sumOf_88 : decode cX11_sumOf 88 = .ok (.getfield 67, 3) := by decide +kernel
theorem dX11_sumOf_91 : decode cX11_sumOf 91 = .ok (.iload 4, 2) := by decide +kernel
theorem dX11_sumOf_93 : decode cX11_sumOf 93 = .ok (.iaload, 1) := by decide +kernel
theorem dX11_sumOf_94 : decode cX11_sumOf 94 = .ok (.iload 6, 2) := by decide +kernel
theorem dX11_sumOf_96 : decode cX11_sumOf 96 = .ok (.ishr, 1) := by decide +kernel
theorem dX11_sumOf_97 : decode cX11_sumOf 97 = .ok (.iconst 1, 1) := by decide +kernel
theorem dX11_sumOf_98 : decode cX11_sumOf 98 = .ok (.iand, 1) := by decide +kernel
theorem dX11_sumOf_99 : decode cX11_sumOf 99 = .ok (.ifCond .ne 6, 3) := by decide +kernel
theorem dX11_sumOf_102 : decode cX11_sumOf 102 = .ok (.bipush (-4), 2) := by decide +kernel
theorem dX11_sumOf_104 : decode cX11_sumOf 104 = .ok (.ireturn, 1) := by decide +kernel
theorem dX11_sumOf_105 : decode cX11_sumOf 105 = .ok (.iinc 6 1, 3) := by decide +kernel
theorem dX11_sumOf_108 : decode cX11_sumOf 108 = .ok (.goto (-39), 3) := by decide +kernel
theorem dX11_sumOf_111 : decode cX11_sumOf 111 = .ok (.iinc 4 1, 3) := by decide +kernel
theorem dX11_sumOf_114 : decode cX11_sumOf 114 = .ok (.goto (-97), 3) := by decide +kernel
theorem dX11_sumOf_117 : decode cX11_sumOf 117 = .ok (.iload_n 1, 1) := by decide +kernel
theorem dX11_sumOf_118 : decode cX11_sumOf 118 = .ok (.iload_n 3, 1) := by decide +kernel
theorem dX11_sumOf_119 : decode cX11_sumOf 119 = .ok (.iadd, 1) := by decide +kernel
theorem dX11_sumOf_120 : decode cX11_sumOf 120 = .ok (.istore_n 1, 1) := by decide +kernel
theorem dX11_sumOf_121 : decode cX11_sumOf 121 = .ok (.iinc 2 1, 3) := by decide +kernel
theorem dX11_sumOf_124 : decode cX11_sumOf 124 = .ok (.goto (-120), 3) := by decide +kernel
theorem dX11_sumOf_127 : decode cX11_sumOf 127 = .ok (.iload_n 1, 1) := by decide +kernel
theorem dX11_sumOf_128 : decode cX11_sumOf 128 = .ok (.ireturn, 1) := by decide +kernel
theorem dX11_highest_0 : decode cX11_highest 0 = .ok (.iconst (-1), 1) := by decide +kernel
theorem dX11_highest_1 : decode cX11_highest 1 = .ok (.istore_n 2, 1) := by decide +kernel
theorem dX11_highest_2 : decode cX11_highest 2 = .ok (.iconst 0, 1) := by decide +kernel
theorem dX11_highest_3 : decode cX11_highest 3 = .ok (.istore_n 3, 1) := by decide +kernel
theorem dX11_highest_4 : decode cX11_highest 4 = .ok (.iload_n 3, 1) := by decide +kernel
theorem dX11_highest_5 : decode cX11_highest 5 = .ok (.iload_n 1, 1) := by decide +kernel
theorem dX11_highest_6 : decode cX11_highest 6 = .ok (.if_icmp .ge 30, 3) := by decide +kernel
theorem dX11_highest_9 : decode cX11_highest 9 = .ok (.aload_n 0, 1) := by decide +kernel
theorem dX11_highest_10 : decode cX11_highest 10 = .ok (.getfield 70, 3) := by decide +kernel
theorem dX11_highest_13 : decode cX11_highest 13 = .ok (.iload_n 3, 1) := by decide +kernel
theorem dX11_highest_14 : decode cX11_highest 14 = .ok (.iaload, 1) := by decide +kernel
theorem dX11_highest_15 : decode cX11_highest 15 = .ok (.iload_n 2, 1) := by decide +kernel
theorem dX11_highest_16 : decode cX11_highest 16 = .ok (.if_icmp .le 12, 3) := by decide +kernel
theorem dX11_highest_19 : decode cX11_highest 19 = .ok (.aload_n 0, 1) := by decide +kernel
theorem dX11_highest_20 : decode cX11_highest 20 = .ok (.getfield 70, 3) := by decide +kernel
theorem dX11_highest_23 : decode cX11_highest 23 = .ok (.iload_n 3, 1) := by decide +kernel
theorem dX11_highest_24 : decode cX11_highest 24 = .ok (.iaload, 1) := by decide +kernel
theorem dX11_highest_25 : decode cX11_highest 25 = .ok (.goto 4, 3) := by decide +kernel
theorem dX11_highest_28 : decode cX11_highest 28 = .ok (.iload_n 2, 1) := by decide +kernel
theorem dX11_highest_29 : decode cX11_highest 29 = .ok (.istore_n 2, 1) := by decide +kernel
theorem dX11_highest_30 : decode cX11_highest 30 = .ok (.iinc 3 1, 3) := by decide +kernel
theorem dX11_highest_33 : decode cX11_highest 33 = .ok (.goto (-29), 3) := by decide +kernel
theorem dX11_highest_36 : decode cX11_highest 36 = .ok (.iload_n 2, 1) := by decide +kernel
theorem dX11_highest_37 : decode cX11_highest 37 = .ok (.ireturn, 1) := by decide +kernel
theorem dX11_nextWay_0 : decode cX11_nextWay 0 = .ok (.aload_n 0, 1) := by decide +kernel
theorem dX11_nextWay_1 : decode cX11_nextWay 1 = .ok (.getfield 169, 3) := by decide +kernel
theorem dX11_nextWay_4 : decode cX11_nextWay 4 = .ok (.iconst 1, 1) := by decide +kernel
theorem dX11_nextWay_5 : decode cX11_nextWay 5 = .ok (.isub, 1) := by decide +kernel
theorem dX11_nextWay_6 : decode cX11_nextWay 6 = .ok (.istore_n 1, 1) := by decide +kernel
theorem dX11_nextWay_7 : decode cX11_nextWay 7 = .ok (.iload_n 1, 1) := by decide +kernel
theorem dX11_nextWay_8 : decode cX11_nextWay 8 = .ok (.ifCond .lt 23, 3) := by decide +kernel
theorem dX11_nextWay_11 : decode cX11_nextWay 11 = .ok (.aload_n 0, 1) := by decide +kernel
theorem dX11_nextWay_12 : decode cX11_nextWay 12 = .ok (.getfield 70, 3) := by decide +kernel
theorem dX11_nextWay_15 : decode cX11_nextWay 15 = .ok (.iload_n 1, 1) := by decide +kernel
theorem dX11_nextWay_16 : decode cX11_nextWay 16 = .ok (.iaload, 1) := by decide +kernel
theorem dX11_nextWay_17 : decode cX11_nextWay 17 = .ok (.aload_n 0, 1) := by decide +kernel
theorem dX11_nextWay_18 : decode cX11_nextWay 18 = .ok (.iload_n 1, 1) := by decide +kernel
theorem dX11_nextWay_19 : decode cX11_nextWay 19 = .ok (.invokevirtual 181, 3) := by decide +kernel
theorem dX11_nextWay_22 : decode cX11_nextWay 22 = .ok (.if_icmp .le 9, 3) := by decide +kernel
theorem dX11_nextWay_25 : decode cX11_nextWay 25 = .ok (.iinc 1 (-1), 3) := by decide +kernel
theorem dX11_nextWay_28 : decode cX11_nextWay 28 = .ok (.goto (-21), 3) := by decide +kernel
theorem dX11_nextWay_31 : decode cX11_nextWay 31 = .ok (.iload_n 1, 1) := by decide +kernel
theorem dX11_nextWay_32 : decode cX11_nextWay 32 = .ok (.ifCond .ge 5, 3) := by decide +kernel
theorem dX11_nextWay_35 : decode cX11_nextWay 35 = .ok (.iconst 0, 1) := by decide +kernel
theorem dX11_nextWay_36 : decode cX11_nextWay 36 = .ok (.ireturn, 1) := by decide +kernel
theorem dX11_nextWay_37 : decode cX11_nextWay 37 = .ok (.aload_n 0, 1) := by decide +kernel
theorem dX11_nextWay_38 : decode cX11_nextWay 38 = .ok (.getfield 70, 3) := by decide +kernel
theorem dX11_nextWay_41 : decode cX11_nextWay 41 = .ok (.iload_n 1, 1) := by decide +kernel
theorem dX11_nextWay_42 : decode cX11_nextWay 42 = .ok (.dup2, 1) := by decide +kernel
theorem dX11_nextWay_43 : decode cX11_nextWay 43 = .ok (.iaload, 1) := by decide +kernel
theorem dX11_nextWay_44 : decode cX11_nextWay 44 = .ok (.iconst 1, 1) := by decide +kernel
theorem dX11_nextWay_45 : decode cX11_nextWay 45 = .ok (.iadd, 1) := by decide +kernel
theorem dX11_nextWay_46 : decode cX11_nextWay 46 = .ok (.iastore, 1) := by decide +kernel
theorem dX11_nextWay_47 : decode cX11_nextWay 47 = .ok (.iload_n 1, 1) := by decide +kernel
theorem dX11_nextWay_48 : decode cX11_nextWay 48 = .ok (.iconst 1, 1) := by decide +kernel
theorem dX11_nextWay_49 : decode cX11_nextWay 49 = .ok (.iadd, 1) := by decide +kernel
theorem dX11_nextWay_50 : decode cX11_nextWay 50 = .ok (.istore_n 2, 1) := by decide +kernel
theorem dX11_nextWay_51 : decode cX11_nextWay 51 = .ok (.iload_n 2, 1) := by decide +kernel
theorem dX11_nextWay_52 : decode cX11_nextWay 52 = .ok (.aload_n 0, 1) := by decide +kernel
theorem dX11_nextWay_53 : decode cX11_nextWay 53 = .ok (.getfield 169, 3) := by decide +kernel
theorem dX11_nextWay_56 : decode cX11_nextWay 56 = .ok (.if_icmp .ge 16, 3) := by decide +kernel
theorem dX11_nextWay_59 : decode cX11_nextWay 59 = .ok (.aload_n 0, 1) := by decide +kernel
theorem dX11_nextWay_60 : decode cX11_nextWay 60 = .ok (.getfield 70, 3) := by decide +kernel
theorem dX11_nextWay_63 : decode cX11_nextWay 63 = .ok (.iload_n 2, 1) := by decide +kernel
theorem dX11_nextWay_64 : decode cX11_nextWay 64 = .ok (.iconst 0, 1) := by decide +kernel
theorem dX11_nextWay_65 : decode cX11_nextWay 65 = .ok (.iastore, 1) := by decide +kernel
theorem dX11_nextWay_66 : decode cX11_nextWay 66 = .ok (.iinc 2 1, 3) := by decide +kernel
theorem dX11_nextWay_69 : decode cX11_nextWay 69 = .ok (.goto (-18), 3) := by decide +kernel
theorem dX11_nextWay_72 : decode cX11_nextWay 72 = .ok (.iconst 1, 1) := by decide +kernel
theorem dX11_nextWay_73 : decode cX11_nextWay 73 = .ok (.ireturn, 1) := by decide +kernel
theorem dX11_share_0 : decode cX11_share 0 = .ok (.aload_n 0, 1) := by decide +kernel
theorem dX11_share_1 : decode cX11_share 1 = .ok (.invokevirtual 155, 3) := by decide +kernel
theorem dX11_share_4 : decode cX11_share 4 = .ok (.iconst 0, 1) := by decide +kernel
theorem dX11_share_5 : decode cX11_share 5 = .ok (.istore_n 1, 1) := by decide +kernel
theorem dX11_share_6 : decode cX11_share 6 = .ok (.iload_n 1, 1) := by decide +kernel
theorem dX11_share_7 : decode cX11_share 7 = .ok (.aload_n 0, 1) := by decide +kernel
theorem dX11_share_8 : decode cX11_share 8 = .ok (.getfield 169, 3) := by decide +kernel
theorem dX11_share_11 : decode cX11_share 11 = .ok (.if_icmp .ge 28, 3) := by decide +kernel
theorem dX11_share_14 : decode cX11_share 14 = .ok (.aload_n 0, 1) := by decide +kernel
theorem dX11_share_15 : decode cX11_share 15 = .ok (.getfield 70, 3) := by decide +kernel
theorem dX11_share_18 : decode cX11_share 18 = .ok (.iload_n 1, 1) := by decide +kernel
theorem dX11_share_19 : decode cX11_share 19 = .ok (.iconst 0, 1) := by decide +kernel
theorem dX11_share_20 : decode cX11_share 20 = .ok (.iastore, 1) := by decide +kernel
theorem dX11_share_21 : decode cX11_share 21 = .ok (.aload_n 0, 1) := by decide +kernel
theorem dX11_share_22 : decode cX11_share 22 = .ok (.iload_n 1, 1) := by decide +kernel
theorem dX11_share_23 : decode cX11_share 23 = .ok (.invokevirtual 178, 3) := by decide +kernel
theorem dX11_share_26 : decode cX11_share 26 = .ok (.bipush (-5), 2) := by decide +kernel
theorem dX11_share_28 : decode cX11_share 28 = .ok (.if_icmp .ne 5, 3) := by decide +kernel
theorem dX11_share_31 : decode cX11_share 31 = .ok (.iconst 0, 1) := by decide +kernel
theorem dX11_share_32 : decode cX11_share 32 = .ok (.ireturn, 1) := by decide +kernel
theorem dX11_share_33 : decode cX11_share 33 = .ok (.iinc 1 1, 3) := by decide +kernel
theorem dX11_share_36 : decode cX11_share 36 = .ok (.goto (-30), 3) := by decide +kernel
theorem dX11_share_39 : decode cX11_share 39 = .ok (.aload_n 0, 1) := by decide +kernel
theorem dX11_share_40 : decode cX11_share 40 = .ok (.bipush (-4), 2) := by decide +kernel
theorem dX11_share_42 : decode cX11_share 42 = .ok (.putfield 184, 3) := by decide +kernel
theorem dX11_share_45 : decode cX11_share 45 = .ok (.iconst 1, 1) := by decide +kernel
theorem dX11_share_46 : decode cX11_share 46 = .ok (.istore_n 1, 1) := by decide +kernel
theorem dX11_share_47 : decode cX11_share 47 = .ok (.iload_n 1, 1) := by decide +kernel
theorem dX11_share_48 : decode cX11_share 48 = .ok (.ifCond .eq 72, 3) := by decide +kernel
theorem dX11_share_51 : decode cX11_share 51 = .ok (.aload_n 0, 1) := by decide +kernel
theorem dX11_share_52 : decode cX11_share 52 = .ok (.invokevirtual 187, 3) := by decide +kernel
theorem dX11_share_55 : decode cX11_share 55 = .ok (.istore_n 2, 1) := by decide +kernel
theorem dX11_share_56 : decode cX11_share 56 = .ok (.iload_n 2, 1) := by decide +kernel
theorem dX11_share_57 : decode cX11_share 57 = .ok (.bipush (-4), 2) := by decide +kernel
theorem dX11_share_59 : decode cX11_share 59 = .ok (.if_icmp .eq 53, 3) := by decide +kernel
theorem dX11_share_62 : decode cX11_share 62 = .ok (.aload_n 0, 1) := by decide +kernel
theorem dX11_share_63 : decode cX11_share 63 = .ok (.getfield 184, 3) := by decide +kernel
theorem dX11_share_66 : decode cX11_share 66 = .ok (.bipush (-4), 2) := by decide +kernel
theorem dX11_share_68 : decode cX11_share 68 = .ok (.if_icmp .eq 11, 3) := by decide +kernel
theorem dX11_share_71 : decode cX11_share 71 = .ok (.iload_n 2, 1) := by decide +kernel
theorem dX11_share_72 : decode cX11_share 72 = .ok (.aload_n 0, 1) := by decide +kernel
theorem dX11_share_73 : decode cX11_share 73 = .ok (.getfield 184, 3) := by decide +kernel
theorem dX11_share_76 : decode cX11_share 76 = .ok (.if_icmp .ge 36, 3) := by decide +kernel
theorem dX11_share_79 : decode cX11_share 79 = .ok (.aload_n 0, 1) := by decide +kernel
theorem dX11_share_80 : decode cX11_share 80 = .ok (.iload_n 2, 1) := by decide +kernel
theorem dX11_share_81 : decode cX11_share 81 = .ok (.putfield 184, 3) := by decide +kernel
theorem dX11_share_84 : decode cX11_share 84 = .ok (.iconst 0, 1) := by decide +kernel
theorem dX11_share_85 : decode cX11_share 85 = .ok (.istore_n 3, 1) := by decide +kernel
theorem dX11_share_86 : decode cX11_share 86 = .ok (.iload_n 3, 1) := by decide +kernel
theorem dX11_share_87 : decode cX11_share 87 = .ok (.aload_n 0, 1) := by decide +kernel
theorem dX11_share_88 : decode cX11_share 88 = .ok (.getfield 169, 3) := by decide +kernel
theorem dX11_share_91 : decode cX11_share 91 = .ok (.if_icmp .ge 21, 3) := by decide +kernel
theorem dX11_share_94 : decode cX11_share 94 = .ok (.aload_n 0, 1) := by decide +kernel
theorem dX11_share_95 : decode cX11_share 95 = .ok (.getfield 73, 3) := by decide +kernel
theorem dX11_share_98 : decode cX11_share 98 = .ok (.iload_n 3, 1) := by decide +kernel
theorem dX11_share_99 : decode cX11_share 99 = .ok (.aload_n 0, 1) := by decide +kernel
theorem dX11_share_100 : decode cX11_share 100 = .ok (.getfield 70, 3) := by decide +kernel
theorem dX11_share_103 : decode cX11_share 103 = .ok (.iload_n 3, 1) := by decide +kernel
theorem dX11_share_104 : decode cX11_share 104 = .ok (.iaload, 1) := by decide +kernel
theorem dX11_share_105 : decode cX11_share 105 = .ok (.iastore, 1) := by decide +kernel
theorem dX11_share_106 : decode cX11_share 106 = .ok (.iinc 3 1, 3) := by decide +kernel
theorem dX11_share_109 : decode cX11_share 109 = .ok (.goto (-23), 3) := by decide +kernel
theorem dX11_share_112 : decode cX11_share 112 = .ok (.aload_n 0, 1) := by decide +kernel
theorem dX11_share_113 : decode cX11_share 113 = .ok (.invokevirtual 191, 3) := by decide +kernel
theorem dX11_share_116 : decode cX11_share 116 = .ok (.istore_n 1, 1) := by decide +kernel
theorem dX11_share_117 : decode cX11_share 117 = .ok (.goto (-70), 3) := by decide +kernel
theorem dX11_share_120 : decode cX11_share 120 = .ok (.iconst 1, 1) := by decide +kernel
theorem dX11_share_121 : decode cX11_share 121 = .ok (.ireturn, 1) := by decide +kernel
theorem dX11_shared_0 : decode cX11_shared 0 = .ok (.aload_n 0, 1) := by decide +kernel
theorem dX11_shared_1 : decode cX11_shared 1 = .ok (.invokevirtual 195, 3) := by decide +kernel
theorem dX11_shared_4 : decode cX11_shared 4 = .ok (.ifCond .eq 10, 3) := by decide +kernel
theorem dX11_shared_7 : decode cX11_shared 7 = .ok (.aload_n 0, 1) := by decide +kernel
theorem dX11_shared_8 : decode cX11_shared 8 = .ok (.getfield 184, 3) := by decide +kernel
theorem dX11_shared_11 : decode cX11_shared 11 = .ok (.goto 5, 3) := by decide +kernel
theorem dX11_shared_14 : decode cX11_shared 14 = .ok (.bipush (-5), 2) := by decide +kernel
theorem dX11_shared_16 : decode cX11_shared 16 = .ok (.ireturn, 1) := by decide +kernel
theorem dX11_group_0 : decode cX11_group 0 = .ok (.aload_n 0, 1) := by decide +kernel
theorem dX11_group_1 : decode cX11_group 1 = .ok (.iload_n 1, 1) := by decide +kernel
theorem dX11_group_2 : decode cX11_group 2 = .ok (.invokevirtual 175, 3) := by decide +kernel
theorem dX11_group_5 : decode cX11_group 5 = .ok (.ifCond .ne 5, 3) := by decide +kernel
theorem dX11_group_8 : decode cX11_group 8 = .ok (.iconst (-1), 1) := by decide +kernel
theorem dX11_group_9 : decode cX11_group 9 = .ok (.ireturn, 1) := by decide +kernel
theorem dX11_group_10 : decode cX11_group 10 = .ok (.aload_n 0, 1) := by decide +kernel
theorem dX11_group_11 : decode cX11_group 11 = .ok (.invokevirtual 195, 3) := by decide +kernel
theorem dX11_group_14 : decode cX11_group 14 = .ok (.ifCond .eq 12, 3) := by decide +kernel
theorem dX11_group_17 : decode cX11_group 17 = .ok (.aload_n 0, 1) := by decide +kernel
theorem dX11_group_18 : decode cX11_group 18 = .ok (.getfield 73, 3) := by decide +kernel
theorem dX11_group_21 : decode cX11_group 21 = .ok (.iload_n 1, 1) := by decide +kernel
theorem dX11_group_22 : decode cX11_group 22 = .ok (.iaload, 1) := by decide +kernel
theorem dX11_group_23 : decode cX11_group 23 = .ok (.goto 5, 3) := by decide +kernel
theorem dX11_group_26 : decode cX11_group 26 = .ok (.bipush (-5), 2) := by decide +kernel
theorem dX11_group_28 : decode cX11_group 28 = .ok (.ireturn, 1) := by decide +kernel
theorem dX11_savesOf_0 : decode cX11_savesOf 0 = .ok (.aload_n 0, 1) := by decide +kernel
theorem dX11_savesOf_1 : decode cX11_savesOf 1 = .ok (.invokevirtual 155, 3) := by decide +kernel
theorem dX11_savesOf_4 : decode cX11_savesOf 4 = .ok (.aload_n 0, 1) := by decide +kernel
theorem dX11_savesOf_5 : decode cX11_savesOf 5 = .ok (.iload_n 1, 1) := by decide +kernel
theorem dX11_savesOf_6 : decode cX11_savesOf 6 = .ok (.invokevirtual 178, 3) := by decide +kernel
theorem dX11_savesOf_9 : decode cX11_savesOf 9 = .ok (.istore_n 3, 1) := by decide +kernel
theorem dX11_savesOf_10 : decode cX11_savesOf 10 = .ok (.iload_n 3, 1) := by decide +kernel
theorem dX11_savesOf_11 : decode cX11_savesOf 11 = .ok (.bipush (-5), 2) := by decide +kernel
theorem dX11_savesOf_13 : decode cX11_savesOf 13 = .ok (.if_icmp .ne 6, 3) := by decide +kernel
theorem dX11_savesOf_16 : decode cX11_savesOf 16 = .ok (.bipush (-5), 2) := by decide +kernel
theorem dX11_savesOf_18 : decode cX11_savesOf 18 = .ok (.ireturn, 1) := by decide +kernel
theorem dX11_savesOf_19 : decode cX11_savesOf 19 = .ok (.aload_n 0, 1) := by decide +kernel
theorem dX11_savesOf_20 : decode cX11_savesOf 20 = .ok (.getfield 7, 3) := by decide +kernel
theorem dX11_savesOf_23 : decode cX11_savesOf 23 = .ok (.iload_n 2, 1) := by decide +kernel
theorem dX11_savesOf_24 : decode cX11_savesOf 24 = .ok (.iaload, 1) := by decide +kernel
theorem dX11_savesOf_25 : decode cX11_savesOf 25 = .ok (.istore 4, 2) := by decide +kernel
theorem dX11_savesOf_27 : decode cX11_savesOf 27 = .ok (.aload_n 0, 1) := by decide +kernel
theorem dX11_savesOf_28 : decode cX11_savesOf 28 = .ok (.getfield 7, 3) := by decide +kernel
theorem dX11_savesOf_31 : decode cX11_savesOf 31 = .ok (.iload_n 2, 1) := by decide +kernel
theorem dX11_savesOf_32 : decode cX11_savesOf 32 = .ok (.iconst 0, 1) := by decide +kernel
theorem dX11_savesOf_33 : decode cX11_savesOf 33 = .ok (.iastore, 1) := by decide +kernel
theorem dX11_savesOf_34 : decode cX11_savesOf 34 = .ok (.aload_n 0, 1) := by decide +kernel
theorem dX11_savesOf_35 : decode cX11_savesOf 35 = .ok (.invokevirtual 155, 3) := by decide +kernel
theorem dX11_savesOf_38 : decode cX11_savesOf 38 = .ok (.aload_n 0, 1) := by decide +kernel
theorem dX11_savesOf_39 : decode cX11_savesOf 39 = .ok (.iload_n 1, 1) := by decide +kernel
theorem dX11_savesOf_40 : decode cX11_savesOf 40 = .ok (.invokevirtual 178, 3) := by decide +kernel
theorem dX11_savesOf_43 : decode cX11_savesOf 43 = .ok (.istore 5, 2) := by decide +kernel
theorem dX11_savesOf_45 : decode cX11_savesOf 45 = .ok (.aload_n 0, 1) := by decide +kernel
theorem dX11_savesOf_46 : decode cX11_savesOf 46 = .ok (.getfield 7, 3) := by decide +kernel
theorem dX11_savesOf_49 : decode cX11_savesOf 49 = .ok (.iload_n 2, 1) := by decide +kernel
theorem dX11_savesOf_50 : decode cX11_savesOf 50 = .ok (.iload 4, 2) := by decide +kernel
theorem dX11_savesOf_52 : decode cX11_savesOf 52 = .ok (.iastore, 1) := by decide +kernel
theorem dX11_savesOf_53 : decode cX11_savesOf 53 = .ok (.iload_n 3, 1) := by decide +kernel
theorem dX11_savesOf_54 : decode cX11_savesOf 54 = .ok (.iload 5, 2) := by decide +kernel
theorem dX11_savesOf_56 : decode cX11_savesOf 56 = .ok (.isub, 1) := by decide +kernel
theorem dX11_savesOf_57 : decode cX11_savesOf 57 = .ok (.ireturn, 1) := by decide +kernel
theorem dX11_saves_0 : decode cX11_saves 0 = .ok (.aload_n 0, 1) := by decide +kernel
theorem dX11_saves_1 : decode cX11_saves 1 = .ok (.iload_n 1, 1) := by decide +kernel
theorem dX11_saves_2 : decode cX11_saves 2 = .ok (.invokevirtual 175, 3) := by decide +kernel
theorem dX11_saves_5 : decode cX11_saves 5 = .ok (.ifCond .eq 20, 3) := by decide +kernel
theorem dX11_saves_8 : decode cX11_saves 8 = .ok (.aload_n 0, 1) := by decide +kernel
theorem dX11_saves_9 : decode cX11_saves 9 = .ok (.iload_n 2, 1) := by decide +kernel
theorem dX11_saves_10 : decode cX11_saves 10 = .ok (.invokevirtual 103, 3) := by decide +kernel
theorem dX11_saves_13 : decode cX11_saves 13 = .ok (.ifCond .eq 12, 3) := by decide +kernel
theorem dX11_saves_16 : decode cX11_saves 16 = .ok (.aload_n 0, 1) := by decide +kernel
theorem dX11_saves_17 : decode cX11_saves 17 = .ok (.iload_n 1, 1) := by decide +kernel
theorem dX11_saves_18 : decode cX11_saves 18 = .ok (.iload_n 2, 1) := by decide +kernel
theorem dX11_saves_19 : decode cX11_saves 19 = .ok (.invokevirtual 198, 3) := by decide +kernel
theorem dX11_saves_22 : decode cX11_saves 22 = .ok (.goto 4, 3) := by decide +kernel
theorem dX11_saves_25 : decode cX11_saves 25 = .ok (.iconst (-1), 1) := by decide +kernel
theorem dX11_saves_26 : decode cX11_saves 26 = .ok (.ireturn, 1) := by decide +kernel
theorem dX11_best_0 : decode cX11_best 0 = .ok (.aload_n 0, 1) := by decide +kernel
theorem dX11_best_1 : decode cX11_best 1 = .ok (.iload_n 1, 1) := by decide +kernel
theorem dX11_best_2 : decode cX11_best 2 = .ok (.invokevirtual 175, 3) := by decide +kernel
theorem dX11_best_5 : decode cX11_best 5 = .ok (.ifCond .ne 5, 3) := by decide +kernel
theorem dX11_best_8 : decode cX11_best 8 = .ok (.iconst (-1), 1) := by decide +kernel
theorem dX11_best_9 : decode cX11_best 9 = .ok (.ireturn, 1) := by decide +kernel
theorem dX11_best_10 : decode cX11_best 10 = .ok (.bipush (-4), 2) := by decide +kernel
theorem dX11_best_12 : decode cX11_best 12 = .ok (.istore_n 2, 1) := by decide +kernel
theorem dX11_best_13 : decode cX11_best 13 = .ok (.iconst 0, 1) := by decide +kernel
theorem dX11_best_14 : decode cX11_best 14 = .ok (.istore_n 3, 1) := by decide +kernel
theorem dX11_best_15 : decode cX11_best 15 = .ok (.iconst 0, 1) := by decide +kernel
theorem dX11_best_16 : decode cX11_best 16 = .ok (.istore 4, 2) := by decide +kernel
theorem dX11_best_18 : decode cX11_best 18 = .ok (.iload 4, 2) := by decide +kernel
theorem dX11_best_20 : decode cX11_best 20 = .ok (.aload_n 0, 1) := by decide +kernel
theorem dX11_best_21 : decode cX11_best 21 = .ok (.getfield 91, 3) := by decide +kernel
theorem dX11_best_24 : decode cX11_best 24 = .ok (.if_icmp .ge 40, 3) := by decide +kernel
theorem dX11_best_27 : decode cX11_best 27 = .ok (.aload_n 0, 1) := by decide +kernel
theorem dX11_best_28 : decode cX11_best 28 = .ok (.iload_n 1, 1) := by decide +kernel
theorem dX11_best_29 : decode cX11_best 29 = .ok (.iload 4, 2) := by decide +kernel
theorem dX11_best_31 : decode cX11_best 31 = .ok (.invokevirtual 198, 3) := by decide +kernel
theorem dX11_best_34 : decode cX11_best 34 = .ok (.istore 5, 2) := by decide +kernel
theorem dX11_best_36 : decode cX11_best 36 = .ok (.iload 5, 2) := by decide +kernel
theorem dX11_best_38 : decode cX11_best 38 = .ok (.bipush (-5), 2) := by decide +kernel
theorem dX11_best_40 : decode cX11_best 40 = .ok (.if_icmp .ne 6, 3) := by decide +kernel
theorem dX11_best_43 : decode cX11_best 43 = .ok (.bipush (-5), 2) := by decide +kernel
theorem dX11_best_45 : decode cX11_best 45 = .ok (.ireturn, 1) := by decide +kernel
theorem dX11_best_46 : decode cX11_best 46 = .ok (.iload 5, 2) := by decide +kernel
theorem dX11_best_48 : decode cX11_best 48 = .ok (.iload_n 3, 1) := by decide +kernel
theorem dX11_best_49 : decode cX11_best 49 = .ok (.if_icmp .le 9, 3) := by decide +kernel
theorem dX11_best_52 : decode cX11_best 52 = .ok (.iload 5, 2) := by decide +kernel
theorem dX11_best_54 : decode cX11_best 54 = .ok (.istore_n 3, 1) := by decide +kernel
theorem dX11_best_55 : decode cX11_best 55 = .ok (.iload 4, 2) := by decide +kernel
theorem dX11_best_57 : decode cX11_best 57 = .ok (.istore_n 2, 1) := by decide +kernel
theorem dX11_best_58 : decode cX11_best 58 = .ok (.iinc 4 1, 3) := by decide +kernel
theorem dX11_best_61 : decode cX11_best 61 = .ok (.goto (-43), 3) := by decide +kernel
theorem dX11_best_64 : decode cX11_best 64 = .ok (.iload_n 2, 1) := by decide +kernel
theorem dX11_best_65 : decode cX11_best 65 = .ok (.ireturn, 1) := by decide +kernel
theorem dX11_put_0 : decode cX11_put 0 = .ok (.aload_n 0, 1) := by decide +kernel
theorem dX11_put_1 : decode cX11_put 1 = .ok (.getfield 76, 3) := by decide +kernel
theorem dX11_put_4 : decode cX11_put 4 = .ok (.aload_n 0, 1) := by decide +kernel
theorem dX11_put_5 : decode cX11_put 5 = .ok (.getfield 202, 3) := by decide +kernel
theorem dX11_put_8 : decode cX11_put 8 = .ok (.iload_n 1, 1) := by decide +kernel
theorem dX11_put_9 : decode cX11_put 9 = .ok (.iastore, 1) := by decide +kernel
theorem dX11_put_10 : decode cX11_put 10 = .ok (.aload_n 0, 1) := by decide +kernel
theorem dX11_put_11 : decode cX11_put 11 = .ok (.getfield 79, 3) := by decide +kernel
theorem dX11_put_14 : decode cX11_put 14 = .ok (.aload_n 0, 1) := by decide +kernel
theorem dX11_put_15 : decode cX11_put 15 = .ok (.getfield 202, 3) := by decide +kernel
theorem dX11_put_18 : decode cX11_put 18 = .ok (.aload_n 0, 1) := by decide +kernel
theorem dX11_put_19 : decode cX11_put 19 = .ok (.getfield 7, 3) := by decide +kernel
theorem dX11_put_22 : decode cX11_put 22 = .ok (.iload_n 1, 1) := by decide +kernel
theorem dX11_put_23 : decode cX11_put 23 = .ok (.iaload, 1) := by decide +kernel
theorem dX11_put_24 : decode cX11_put 24 = .ok (.iastore, 1) := by decide +kernel
theorem dX11_put_25 : decode cX11_put 25 = .ok (.aload_n 0, 1) := by decide +kernel
theorem dX11_put_26 : decode cX11_put 26 = .ok (.dup, 1) := by decide +kernel
theorem dX11_put_27 : decode cX11_put 27 = .ok (.getfield 205, 3) := by decide +kernel
theorem dX11_put_30 : decode cX11_put 30 = .ok (.aload_n 0, 1) := by decide +kernel
theorem dX11_put_31 : decode cX11_put 31 = .ok (.getfield 7, 3) := by decide +kernel
theorem dX11_put_34 : decode cX11_put 34 = .ok (.iload_n 1, 1) := by decide +kernel
theorem dX11_put_35 : decode cX11_put 35 = .ok (.iaload, 1) := by decide +kernel
theorem dX11_put_36 : decode cX11_put 36 = .ok (.iadd, 1) := by decide +kernel
theorem dX11_put_37 : decode cX11_put 37 = .ok (.putfield 205, 3) := by decide +kernel
theorem dX11_put_40 : decode cX11_put 40 = .ok (.aload_n 0, 1) := by decide +kernel
theorem dX11_put_41 : decode cX11_put 41 = .ok (.dup, 1) := by decide +kernel
theorem dX11_put_42 : decode cX11_put 42 = .ok (.getfield 202, 3) := by decide +kernel
theorem dX11_put_45 : decode cX11_put 45 = .ok (.iconst 1, 1) := by decide +kernel
theorem dX11_put_46 : decode cX11_put 46 = .ok (.iadd, 1) := by decide +kernel
theorem dX11_put_47 : decode cX11_put 47 = .ok (.putfield 202, 3) := by decide +kernel
theorem dX11_put_50 : decode cX11_put 50 = .ok (.aload_n 0, 1) := by decide +kernel
theorem dX11_put_51 : decode cX11_put 51 = .ok (.aload_n 0, 1) := by decide +kernel
theorem dX11_put_52 : decode cX11_put 52 = .ok (.getfield 205, 3) := by decide +kernel
theorem dX11_put_55 : decode cX11_put 55 = .ok (.aload_n 0, 1) := by decide +kernel
theorem dX11_put_56 : decode cX11_put 56 = .ok (.getfield 208, 3) := by decide +kernel
theorem dX11_put_59 : decode cX11_put 59 = .ok (.if_icmp .le 10, 3) := by decide +kernel
theorem dX11_put_62 : decode cX11_put 62 = .ok (.aload_n 0, 1) := by decide +kernel
theorem dX11_put_63 : decode cX11_put 63 = .ok (.getfield 205, 3) := by decide +kernel
theorem dX11_put_66 : decode cX11_put 66 = .ok (.goto 7, 3) := by decide +kernel
theorem dX11_put_69 : decode cX11_put 69 = .ok (.aload_n 0, 1) := by decide +kernel
theorem dX11_put_70 : decode cX11_put 70 = .ok (.getfield 208, 3) := by decide +kernel
theorem dX11_put_73 : decode cX11_put 73 = .ok (.putfield 208, 3) := by decide +kernel
theorem dX11_put_76 : decode cX11_put 76 = .ok (.iconst 0, 1) := by decide +kernel
theorem dX11_put_77 : decode cX11_put 77 = .ok (.istore_n 2, 1) := by decide +kernel
theorem dX11_put_78 : decode cX11_put 78 = .ok (.iconst 0, 1) := by decide +kernel
theorem dX11_put_79 : decode cX11_put 79 = .ok (.istore_n 3, 1) := by decide +kernel
theorem dX11_put_80 : decode cX11_put 80 = .ok (.iload_n 3, 1) := by decide +kernel
theorem dX11_put_81 : decode cX11_put 81 = .ok (.aload_n 0, 1) := by decide +kernel
theorem dX11_put_82 : decode cX11_put 82 = .ok (.getfield 202, 3) := by decide +kernel
theorem dX11_put_85 : decode cX11_put 85 = .ok (.if_icmp .ge 27, 3) := by decide +kernel
theorem dX11_put_88 : decode cX11_put 88 = .ok (.iload_n 2, 1) := by decide +kernel
theorem dX11_put_89 : decode cX11_put 89 = .ok (.aload_n 0, 1) := by decide +kernel
theorem dX11_put_90 : decode cX11_put 90 = .ok (.getfield 76, 3) := by decide +kernel
theorem dX11_put_93 : decode cX11_put 93 = .ok (.iload_n 3, 1) := by decide +kernel
theorem dX11_put_94 : decode cX11_put 94 = .ok (.iaload, 1) := by decide +kernel
theorem dX11_put_95 : decode cX11_put 95 = .ok (.iload_n 1, 1) := by decide +kernel
theorem dX11_put_96 : decode cX11_put 96 = .ok (.if_icmp .ne 7, 3) := by decide +kernel
theorem dX11_put_99 : decode cX11_put 99 = .ok (.iconst 1, 1) := by decide +kernel
theorem dX11_put_100 : decode cX11_put 100 = .ok (.goto 4, 3) := by decide +kernel
theorem dX11_put_103 : decode cX11_put 103 = .ok (.iconst 0, 1) := by decide +kernel
theorem dX11_put_104 : decode cX11_put 104 = .ok (.iadd, 1) := by decide +kernel
theorem dX11_put_105 : decode cX11_put 105 = .ok (.istore_n 2, 1) := by decide +kernel
theorem dX11_put_106 : decode cX11_put 106 = .ok (.iinc 3 1, 3) := by decide +kernel
theorem dX11_put_109 : decode cX11_put 109 = .ok (.goto (-29), 3) := by decide +kernel
theorem dX11_put_112 : decode cX11_put 112 = .ok (.aload_n 0, 1) := by decide +kernel
theorem dX11_put_113 : decode cX11_put 113 = .ok (.dup, 1) := by decide +kernel
theorem dX11_put_114 : decode cX11_put 114 = .ok (.getfield 211, 3) := by decide +kernel
theorem dX11_put_117 : decode cX11_put 117 = .ok (.aload_n 0, 1) := by decide +kernel
theorem dX11_put_118 : decode cX11_put 118 = .ok (.getfield 13, 3) := by decide +kernel
theorem dX11_put_121 : decode cX11_put 121 = .ok (.iload_n 1, 1) := by decide +kernel
theorem dX11_put_122 : decode cX11_put 122 = .ok (.iaload, 1) := by decide +kernel
theorem dX11_put_123 : decode cX11_put 123 = .ok (.ifCond .le 17, 3) := by decide +kernel
theorem dX11_put_126 : decode cX11_put 126 = .ok (.iload_n 2, 1) := by decide +kernel
theorem dX11_put_127 : decode cX11_put 127 = .ok (.aload_n 0, 1) := by decide +kernel
theorem dX11_put_128 : decode cX11_put 128 = .ok (.getfield 13, 3) := by decide +kernel
theorem dX11_put_131 : decode cX11_put 131 = .ok (.iload_n 1, 1) := by decide +kernel
theorem dX11_put_132 : decode cX11_put 132 = .ok (.iaload, 1) := by decide +kernel
theorem dX11_put_133 : decode cX11_put 133 = .ok (.if_icmp .le 7, 3) := by decide +kernel
theorem dX11_put_136 : decode cX11_put 136 = .ok (.iconst 1, 1) := by decide +kernel
theorem dX11_put_137 : decode cX11_put 137 = .ok (.goto 4, 3) := by decide +kernel
theorem dX11_put_140 : decode cX11_put 140 = .ok (.iconst 0, 1) := by decide +kernel
theorem dX11_put_141 : decode cX11_put 141 = .ok (.iadd, 1) := by decide +kernel
theorem dX11_put_142 : decode cX11_put 142 = .ok (.putfield 211, 3) := by decide +kernel
theorem dX11_put_145 : decode cX11_put 145 = .ok (.return_, 1) := by decide +kernel
theorem dX11_pull_0 : decode cX11_pull 0 = .ok (.aload_n 0, 1) := by decide +kernel
theorem dX11_pull_1 : decode cX11_pull 1 = .ok (.dup, 1) := by decide +kernel
theorem dX11_pull_2 : decode cX11_pull 2 = .ok (.getfield 202, 3) := by decide +kernel
theorem dX11_pull_5 : decode cX11_pull 5 = .ok (.iconst 1, 1) := by decide +kernel
theorem dX11_pull_6 : decode cX11_pull 6 = .ok (.isub, 1) := by decide +kernel
theorem dX11_pull_7 : decode cX11_pull 7 = .ok (.putfield 202, 3) := by decide +kernel
theorem dX11_pull_10 : decode cX11_pull 10 = .ok (.aload_n 0, 1) := by decide +kernel
theorem dX11_pull_11 : decode cX11_pull 11 = .ok (.dup, 1) := by decide +kernel
theorem dX11_pull_12 : decode cX11_pull 12 = .ok (.getfield 205, 3) := by decide +kernel
theorem dX11_pull_15 : decode cX11_pull 15 = .ok (.aload_n 0, 1) := by decide +kernel
theorem dX11_pull_16 : decode cX11_pull 16 = .ok (.getfield 79, 3) := by decide +kernel
theorem dX11_pull_19 : decode cX11_pull 19 = .ok (.aload_n 0, 1) := by decide +kernel
theorem dX11_pull_20 : decode cX11_pull 20 = .ok (.getfield 202, 3) := by decide +kernel
theorem dX11_pull_23 : decode cX11_pull 23 = .ok (.iaload, 1) := by decide +kernel
theorem dX11_pull_24 : decode cX11_pull 24 = .ok (.isub, 1) := by decide +kernel
theorem dX11_pull_25 : decode cX11_pull 25 = .ok (.putfield 205, 3) := by decide +kernel
theorem dX11_pull_28 : decode cX11_pull 28 = .ok (.return_, 1) := by decide +kernel
theorem dX11_run_0 : decode cX11_run 0 = .ok (.aload_n 0, 1) := by decide +kernel
theorem dX11_run_1 : decode cX11_run 1 = .ok (.iload_n 1, 1) := by decide +kernel
theorem dX11_run_2 : decode cX11_run 2 = .ok (.invokevirtual 103, 3) := by decide +kernel
theorem dX11_run_5 : decode cX11_run 5 = .ok (.ifCond .ne 5, 3) := by decide +kernel
theorem dX11_run_8 : decode cX11_run 8 = .ok (.iconst (-1), 1) := by decide +kernel
theorem dX11_run_9 : decode cX11_run 9 = .ok (.ireturn, 1) := by decide +kernel
theorem dX11_run_10 : decode cX11_run 10 = .ok (.aload_n 0, 1) := by decide +kernel
theorem dX11_run_11 : decode cX11_run 11 = .ok (.iconst 1, 1) := by decide +kernel
theorem dX11_run_12 : decode cX11_run 12 = .ok (.putfield 214, 3) := by decide +kernel
theorem dX11_run_15 : decode cX11_run 15 = .ok (.aload_n 0, 1) := by decide +kernel
theorem dX11_run_16 : decode cX11_run 16 = .ok (.iconst 0, 1) := by decide +kernel
theorem dX11_run_17 : decode cX11_run 17 = .ok (.putfield 202, 3) := by decide +kernel
theorem dX11_run_20 : decode cX11_run 20 = .ok (.aload_n 0, 1) := by decide +kernel
theorem dX11_run_21 : decode cX11_run 21 = .ok (.iconst 0, 1) := by decide +kernel
theorem dX11_run_22 : decode cX11_run 22 = .ok (.putfield 205, 3) := by decide +kernel
theorem dX11_run_25 : decode cX11_run 25 = .ok (.aload_n 0, 1) := by decide +kernel
theorem dX11_run_26 : decode cX11_run 26 = .ok (.iconst 0, 1) := by decide +kernel
theorem dX11_run_27 : decode cX11_run 27 = .ok (.putfield 208, 3) := by decide +kernel
theorem dX11_run_30 : decode cX11_run 30 = .ok (.aload_n 0, 1) := by decide +kernel
theorem dX11_run_31 : decode cX11_run 31 = .ok (.iconst 0, 1) := by decide +kernel
theorem dX11_run_32 : decode cX11_run 32 = .ok (.putfield 218, 3) := by decide +kernel
theorem dX11_run_35 : decode cX11_run 35 = .ok (.aload_n 0, 1) := by decide +kernel
theorem dX11_run_36 : decode cX11_run 36 = .ok (.iconst 0, 1) := by decide +kernel
theorem dX11_run_37 : decode cX11_run 37 = .ok (.putfield 211, 3) := by decide +kernel
theorem dX11_run_40 : decode cX11_run 40 = .ok (.aload_n 0, 1) := by decide +kernel
theorem dX11_run_41 : decode cX11_run 41 = .ok (.iload_n 1, 1) := by decide +kernel
theorem dX11_run_42 : decode cX11_run 42 = .ok (.putfield 221, 3) := by decide +kernel
theorem dX11_run_45 : decode cX11_run 45 = .ok (.aload_n 0, 1) := by decide +kernel
theorem dX11_run_46 : decode cX11_run 46 = .ok (.iload_n 1, 1) := by decide +kernel
theorem dX11_run_47 : decode cX11_run 47 = .ok (.invokevirtual 224, 3) := by decide +kernel
theorem dX11_run_50 : decode cX11_run 50 = .ok (.aload_n 0, 1) := by decide +kernel
theorem dX11_run_51 : decode cX11_run 51 = .ok (.getfield 205, 3) := by decide +kernel
theorem dX11_run_54 : decode cX11_run 54 = .ok (.ireturn, 1) := by decide +kernel
theorem dX11_enter_0 : decode cX11_enter 0 = .ok (.aload_n 0, 1) := by decide +kernel
theorem dX11_enter_1 : decode cX11_enter 1 = .ok (.iload_n 1, 1) := by decide +kernel
theorem dX11_enter_2 : decode cX11_enter 2 = .ok (.invokevirtual 103, 3) := by decide +kernel
theorem dX11_enter_5 : decode cX11_enter 5 = .ok (.ifCond .ne 5, 3) := by decide +kernel
theorem dX11_enter_8 : decode cX11_enter 8 = .ok (.iconst (-1), 1) := by decide +kernel
theorem dX11_enter_9 : decode cX11_enter 9 = .ok (.ireturn, 1) := by decide +kernel
theorem dX11_enter_10 : decode cX11_enter 10 = .ok (.aload_n 0, 1) := by decide +kernel
theorem dX11_enter_11 : decode cX11_enter 11 = .ok (.getfield 202, 3) := by decide +kernel
theorem dX11_enter_14 : decode cX11_enter 14 = .ok (.ifCond .ne 6, 3) := by decide +kernel
theorem dX11_enter_17 : decode cX11_enter 17 = .ok (.bipush (-2), 2) := by decide +kernel
theorem dX11_enter_19 : decode cX11_enter 19 = .ok (.ireturn, 1) := by decide +kernel
theorem dX11_enter_20 : decode cX11_enter 20 = .ok (.aload_n 0, 1) := by decide +kernel
theorem dX11_enter_21 : decode cX11_enter 21 = .ok (.getfield 202, 3) := by decide +kernel
theorem dX11_enter_24 : decode cX11_enter 24 = .ok (.bipush 40, 2) := by decide +kernel
theorem dX11_enter_26 : decode cX11_enter 26 = .ok (.if_icmp .ne 6, 3) := by decide +kernel
theorem dX11_enter_29 : decode cX11_enter 29 = .ok (.bipush (-3), 2) := by decide +kernel
theorem dX11_enter_31 : decode cX11_enter 31 = .ok (.ireturn, 1) := by decide +kernel
theorem dX11_enter_32 : decode cX11_enter 32 = .ok (.aload_n 0, 1) := by decide +kernel
theorem dX11_enter_33 : decode cX11_enter 33 = .ok (.invokevirtual 133, 3) := by decide +kernel
theorem dX11_enter_36 : decode cX11_enter 36 = .ok (.aload_n 0, 1) := by decide +kernel
theorem dX11_enter_37 : decode cX11_enter 37 = .ok (.dup, 1) := by decide +kernel
theorem dX11_enter_38 : decode cX11_enter 38 = .ok (.getfield 218, 3) := by decide +kernel
theorem dX11_enter_41 : decode cX11_enter 41 = .ok (.aload_n 0, 1) := by decide +kernel
theorem dX11_enter_42 : decode cX11_enter 42 = .ok (.getfield 34, 3) := by decide +kernel
theorem dX11_enter_45 : decode cX11_enter 45 = .ok (.aload_n 0, 1) := by decide +kernel
theorem dX11_enter_46 : decode cX11_enter 46 = .ok (.getfield 76, 3) := by decide +kernel
theorem dX11_enter_49 : decode cX11_enter 49 = .ok (.aload_n 0, 1) := by decide +kernel
theorem dX11_enter_50 : decode cX11_enter 50 = .ok (.getfield 202, 3) := by decide +kernel
theorem dX11_enter_53 : decode cX11_enter 53 = .ok (.iconst 1, 1) := by decide +kernel
theorem dX11_enter_54 : decode cX11_enter 54 = .ok (.isub, 1) := by decide +kernel
theorem dX11_enter_55 : decode cX11_enter 55 = .ok (.iaload, 1) := by decide +kernel
theorem dX11_enter_56 : decode cX11_enter 56 = .ok (.iaload, 1) := by decide +kernel
theorem dX11_enter_57 : decode cX11_enter 57 = .ok (.iload_n 1, 1) := by decide +kernel
theorem dX11_enter_58 : decode cX11_enter 58 = .ok (.ishr, 1) := by decide +kernel
theorem dX11_enter_59 : decode cX11_enter 59 = .ok (.iconst 1, 1) := by decide +kernel
theorem dX11_enter_60 : decode cX11_enter 60 = .ok (.iand, 1) := by decide +kernel
theorem dX11_enter_61 : decode cX11_enter 61 = .ok (.iconst 1, 1) := by decide +kernel
theorem dX11_enter_62 : decode cX11_enter 62 = .ok (.if_icmp .ne 7, 3) := by decide +kernel
theorem dX11_enter_65 : decode cX11_enter 65 = .ok (.iconst 0, 1) := by decide +kernel
theorem dX11_enter_66 : decode cX11_enter 66 = .ok (.goto 4, 3) := by decide +kernel
theorem dX11_enter_69 : decode cX11_enter 69 = .ok (.iconst 1, 1) := by decide +kernel
theorem dX11_enter_70 : decode cX11_enter 70 = .ok (.iadd, 1) := by decide +kernel
theorem dX11_enter_71 : decode cX11_enter 71 = .ok (.putfield 218, 3) := by decide +kernel
theorem dX11_enter_74 : decode cX11_enter 74 = .ok (.aload_n 0, 1) := by decide +kernel
theorem dX11_enter_75 : decode cX11_enter 75 = .ok (.iload_n 1, 1) := by decide +kernel
theorem dX11_enter_76 : decode cX11_enter 76 = .ok (.invokevirtual 224, 3) := by decide +kernel
theorem dX11_enter_79 : decode cX11_enter 79 = .ok (.aload_n 0, 1) := by decide +kernel
theorem dX11_enter_80 : decode cX11_enter 80 = .ok (.getfield 205, 3) := by decide +kernel
theorem dX11_enter_83 : decode cX11_enter 83 = .ok (.ireturn, 1) := by decide +kernel
theorem dX11_over_0 : decode cX11_over 0 = .ok (.aload_n 0, 1) := by decide +kernel
theorem dX11_over_1 : decode cX11_over 1 = .ok (.iload_n 1, 1) := by decide +kernel
theorem dX11_over_2 : decode cX11_over 2 = .ok (.invokevirtual 103, 3) := by decide +kernel
theorem dX11_over_5 : decode cX11_over 5 = .ok (.ifCond .ne 5, 3) := by decide +kernel
theorem dX11_over_8 : decode cX11_over 8 = .ok (.iconst (-1), 1) := by decide +kernel
theorem dX11_over_9 : decode cX11_over 9 = .ok (.ireturn, 1) := by decide +kernel
theorem dX11_over_10 : decode cX11_over 10 = .ok (.aload_n 0, 1) := by decide +kernel
theorem dX11_over_11 : decode cX11_over 11 = .ok (.getfield 202, 3) := by decide +kernel
theorem dX11_over_14 : decode cX11_over 14 = .ok (.ifCond .ne 6, 3) := by decide +kernel
theorem dX11_over_17 : decode cX11_over 17 = .ok (.bipush (-2), 2) := by decide +kernel
theorem dX11_over_19 : decode cX11_over 19 = .ok (.ireturn, 1) := by decide +kernel
theorem dX11_over_20 : decode cX11_over 20 = .ok (.aload_n 0, 1) := by decide +kernel
theorem dX11_over_21 : decode cX11_over 21 = .ok (.invokevirtual 133, 3) := by decide +kernel
theorem dX11_over_24 : decode cX11_over 24 = .ok (.aload_n 0, 1) := by decide +kernel
theorem dX11_over_25 : decode cX11_over 25 = .ok (.dup, 1) := by decide +kernel
theorem dX11_over_26 : decode cX11_over 26 = .ok (.getfield 218, 3) := by decide +kernel
theorem dX11_over_29 : decode cX11_over 29 = .ok (.aload_n 0, 1) := by decide +kernel
theorem dX11_over_30 : decode cX11_over 30 = .ok (.getfield 37, 3) := by decide +kernel
theorem dX11_over_33 : decode cX11_over 33 = .ok (.aload_n 0, 1) := by decide +kernel
theorem dX11_over_34 : decode cX11_over 34 = .ok (.getfield 76, 3) := by decide +kernel
theorem dX11_over_37 : decode cX11_over 37 = .ok (.aload_n 0, 1) := by decide +kernel
theorem dX11_over_38 : decode cX11_over 38 = .ok (.getfield 202, 3) := by decide +kernel
theorem dX11_over_41 : decode cX11_over 41 = .ok (.iconst 1, 1) := by decide +kernel
theorem dX11_over_42 : decode cX11_over 42 = .ok (.isub, 1) := by decide +kernel
theorem dX11_over_43 : decode cX11_over 43 = .ok (.iaload, 1) := by decide +kernel
theorem dX11_over_44 : decode cX11_over 44 = .ok (.iaload, 1) := by decide +kernel
theorem dX11_over_45 : decode cX11_over 45 = .ok (.iload_n 1, 1) := by decide +kernel
theorem dX11_over_46 : decode cX11_over 46 = .ok (.ishr, 1) := by decide +kernel
theorem dX11_over_47 : decode cX11_over 47 = .ok (.iconst 1, 1) := by decide +kernel
theorem dX11_over_48 : decode cX11_over 48 = .ok (.iand, 1) := by decide +kernel
theorem dX11_over_49 : decode cX11_over 49 = .ok (.iconst 1, 1) := by decide +kernel
theorem dX11_over_50 : decode cX11_over 50 = .ok (.if_icmp .ne 7, 3) := by decide +kernel
theorem dX11_over_53 : decode cX11_over 53 = .ok (.iconst 0, 1) := by decide +kernel
theorem dX11_over_54 : decode cX11_over 54 = .ok (.goto 4, 3) := by decide +kernel
theorem dX11_over_57 : decode cX11_over 57 = .ok (.iconst 1, 1) := by decide +kernel
theorem dX11_over_58 : decode cX11_over 58 = .ok (.iadd, 1) := by decide +kernel
theorem dX11_over_59 : decode cX11_over 59 = .ok (.putfield 218, 3) := by decide +kernel
theorem dX11_over_62 : decode cX11_over 62 = .ok (.aload_n 0, 1) := by decide +kernel
theorem dX11_over_63 : decode cX11_over 63 = .ok (.invokevirtual 228, 3) := by decide +kernel
theorem dX11_over_66 : decode cX11_over 66 = .ok (.aload_n 0, 1) := by decide +kernel
theorem dX11_over_67 : decode cX11_over 67 = .ok (.iload_n 1, 1) := by decide +kernel
theorem dX11_over_68 : decode cX11_over 68 = .ok (.invokevirtual 224, 3) := by decide +kernel
theorem dX11_over_71 : decode cX11_over 71 = .ok (.aload_n 0, 1) := by decide +kernel
theorem dX11_over_72 : decode cX11_over 72 = .ok (.getfield 205, 3) := by decide +kernel
theorem dX11_over_75 : decode cX11_over 75 = .ok (.ireturn, 1) := by decide +kernel
theorem dX11_leave_0 : decode cX11_leave 0 = .ok (.aload_n 0, 1) := by decide +kernel
theorem dX11_leave_1 : decode cX11_leave 1 = .ok (.getfield 202, 3) := by decide +kernel
theorem dX11_leave_4 : decode cX11_leave 4 = .ok (.ifCond .ne 6, 3) := by decide +kernel
theorem dX11_leave_7 : decode cX11_leave 7 = .ok (.bipush (-2), 2) := by decide +kernel
theorem dX11_leave_9 : decode cX11_leave 9 = .ok (.ireturn, 1) := by decide +kernel
theorem dX11_leave_10 : decode cX11_leave 10 = .ok (.aload_n 0, 1) := by decide +kernel
theorem dX11_leave_11 : decode cX11_leave 11 = .ok (.invokevirtual 228, 3) := by decide +kernel
theorem dX11_leave_14 : decode cX11_leave 14 = .ok (.aload_n 0, 1) := by decide +kernel
theorem dX11_leave_15 : decode cX11_leave 15 = .ok (.getfield 205, 3) := by decide +kernel
theorem dX11_leave_18 : decode cX11_leave 18 = .ok (.ireturn, 1) := by decide +kernel
theorem dX11_ran_0 : decode cX11_ran 0 = .ok (.iload_n 1, 1) := by decide +kernel
theorem dX11_ran_1 : decode cX11_ran 1 = .ok (.i2l, 1) := by decide +kernel
theorem dX11_ran_2 : decode cX11_ran 2 = .ok (.lconst 0, 1) := by decide +kernel
theorem dX11_ran_3 : decode cX11_ran 3 = .ok (.ldc2_w 231, 3) := by decide +kernel
theorem dX11_ran_6 : decode cX11_ran 6 = .ok (.invokestatic 95, 3) := by decide +kernel
theorem dX11_ran_9 : decode cX11_ran 9 = .ok (.ifCond .ne 5, 3) := by decide +kernel
theorem dX11_ran_12 : decode cX11_ran 12 = .ok (.iconst (-1), 1) := by decide +kernel
theorem dX11_ran_13 : decode cX11_ran 13 = .ok (.ireturn, 1) := by decide +kernel
theorem dX11_ran_14 : decode cX11_ran 14 = .ok (.aload_n 0, 1) := by decide +kernel
theorem dX11_ran_15 : decode cX11_ran 15 = .ok (.getfield 214, 3) := by decide +kernel
theorem dX11_ran_18 : decode cX11_ran 18 = .ok (.ifCond .ne 6, 3) := by decide +kernel
theorem dX11_ran_21 : decode cX11_ran 21 = .ok (.bipush (-2), 2) := by decide +kernel
theorem dX11_ran_23 : decode cX11_ran 23 = .ok (.ireturn, 1) := by decide +kernel
theorem dX11_ran_24 : decode cX11_ran 24 = .ok (.aload_n 0, 1) := by decide +kernel
theorem dX11_ran_25 : decode cX11_ran 25 = .ok (.invokevirtual 155, 3) := by decide +kernel
theorem dX11_ran_28 : decode cX11_ran 28 = .ok (.aload_n 0, 1) := by decide +kernel
theorem dX11_ran_29 : decode cX11_ran 29 = .ok (.getfield 46, 3) := by decide +kernel
theorem dX11_ran_32 : decode cX11_ran 32 = .ok (.aload_n 0, 1) := by decide +kernel
theorem dX11_ran_33 : decode cX11_ran 33 = .ok (.getfield 221, 3) := by decide +kernel
theorem dX11_ran_36 : decode cX11_ran 36 = .ok (.iaload, 1) := by decide +kernel
theorem dX11_ran_37 : decode cX11_ran 37 = .ok (.istore_n 2, 1) := by decide +kernel
theorem dX11_ran_38 : decode cX11_ran 38 = .ok (.iload_n 1, 1) := by decide +kernel
theorem dX11_ran_39 : decode cX11_ran 39 = .ok (.tableswitch 86 0 5 #[37, 42, 47, 52, 57, 62], 37) := by decide +kernel
theorem dX11_ran_76 : decode cX11_ran 76 = .ok (.aload_n 0, 1) := by decide +kernel
theorem dX11_ran_77 : decode cX11_ran 77 = .ok (.getfield 205, 3) := by decide +kernel
theorem dX11_ran_80 : decode cX11_ran 80 = .ok (.ireturn, 1) := by decide +kernel
theorem dX11_ran_81 : decode cX11_ran 81 = .ok (.aload_n 0, 1) := by decide +kernel
theorem dX11_ran_82 : decode cX11_ran 82 = .ok (.getfield 208, 3) := by decide +kernel
theorem dX11_ran_85 : decode cX11_ran 85 = .ok (.ireturn, 1) := by decide +kernel
theorem dX11_ran_86 : decode cX11_ran 86 = .ok (.aload_n 0, 1) := by decide +kernel
theorem dX11_ran_87 : decode cX11_ran 87 = .ok (.getfield 202, 3) := by decide +kernel
theorem dX11_ran_90 : decode cX11_ran 90 = .ok (.ireturn, 1) := by decide +kernel
theorem dX11_ran_91 : decode cX11_ran 91 = .ok (.aload_n 0, 1) := by decide +kernel
theorem dX11_ran_92 : decode cX11_ran 92 = .ok (.getfield 218, 3) := by decide +kernel
theorem dX11_ran_95 : decode cX11_ran 95 = .ok (.ireturn, 1) := by decide +kernel
theorem dX11_ran_96 : decode cX11_ran 96 = .ok (.aload_n 0, 1) := by decide +kernel
theorem dX11_ran_97 : decode cX11_ran 97 = .ok (.getfield 211, 3) := by decide +kernel
theorem dX11_ran_100 : decode cX11_ran 100 = .ok (.ireturn, 1) := by decide +kernel
theorem dX11_ran_101 : decode cX11_ran 101 = .ok (.aload_n 0, 1) := by decide +kernel
theorem dX11_ran_102 : decode cX11_ran 102 = .ok (.getfield 202, 3) := by decide +kernel
theorem dX11_ran_105 : decode cX11_ran 105 = .ok (.ifCond .ne 8, 3) := by decide +kernel
theorem dX11_ran_108 : decode cX11_ran 108 = .ok (.bipush (-4), 2) := by decide +kernel
theorem dX11_ran_110 : decode cX11_ran 110 = .ok (.goto 14, 3) := by decide +kernel
theorem dX11_ran_113 : decode cX11_ran 113 = .ok (.aload_n 0, 1) := by decide +kernel
theorem dX11_ran_114 : decode cX11_ran 114 = .ok (.getfield 76, 3) := by decide +kernel
theorem dX11_ran_117 : decode cX11_ran 117 = .ok (.aload_n 0, 1) := by decide +kernel
theorem dX11_ran_118 : decode cX11_ran 118 = .ok (.getfield 202, 3) := by decide +kernel
theorem dX11_ran_121 : decode cX11_ran 121 = .ok (.iconst 1, 1) := by decide +kernel
theorem dX11_ran_122 : decode cX11_ran 122 = .ok (.isub, 1) := by decide +kernel
theorem dX11_ran_123 : decode cX11_ran 123 = .ok (.iaload, 1) := by decide +kernel
theorem dX11_ran_124 : decode cX11_ran 124 = .ok (.ireturn, 1) := by decide +kernel
theorem dX11_ran_125 : decode cX11_ran 125 = .ok (.iload_n 2, 1) := by decide +kernel
theorem dX11_ran_126 : decode cX11_ran 126 = .ok (.bipush (-5), 2) := by decide +kernel
theorem dX11_ran_128 : decode cX11_ran 128 = .ok (.if_icmp .eq 11, 3) := by decide +kernel
theorem dX11_ran_131 : decode cX11_ran 131 = .ok (.aload_n 0, 1) := by decide +kernel
theorem dX11_ran_132 : decode cX11_ran 132 = .ok (.getfield 208, 3) := by decide +kernel
theorem dX11_ran_135 : decode cX11_ran 135 = .ok (.iload_n 2, 1) := by decide +kernel
theorem dX11_ran_136 : decode cX11_ran 136 = .ok (.if_icmp .gt 7, 3) := by decide +kernel
theorem dX11_ran_139 : decode cX11_ran 139 = .ok (.iconst 1, 1) := by decide +kernel
theorem dX11_ran_140 : decode cX11_ran 140 = .ok (.goto 4, 3) := by decide +kernel
theorem dX11_ran_143 : decode cX11_ran 143 = .ok (.iconst 0, 1) := by decide +kernel
theorem dX11_ran_144 : decode cX11_ran 144 = .ok (.ireturn, 1) := by decide +kernel
theorem dX11_sheet_0 : decode cX11_sheet 0 = .ok (.iload_n 1, 1) := by decide +kernel
theorem dX11_sheet_1 : decode cX11_sheet 1 = .ok (.i2l, 1) := by decide +kernel
theorem dX11_sheet_2 : decode cX11_sheet 2 = .ok (.lconst 0, 1) := by decide +kernel
theorem dX11_sheet_3 : decode cX11_sheet 3 = .ok (.ldc2_w 112, 3) := by decide +kernel
theorem dX11_sheet_6 : decode cX11_sheet 6 = .ok (.invokestatic 95, 3) := by decide +kernel
theorem dX11_sheet_9 : decode cX11_sheet 9 = .ok (.ifCond .eq 21, 3) := by decide +kernel
theorem dX11_sheet_12 : decode cX11_sheet 12 = .ok (.iload_n 2, 1) := by decide +kernel
theorem dX11_sheet_13 : decode cX11_sheet 13 = .ok (.i2l, 1) := by decide +kernel
theorem dX11_sheet_14 : decode cX11_sheet 14 = .ok (.lconst 0, 1) := by decide +kernel
theorem dX11_sheet_15 : decode cX11_sheet 15 = .ok (.ldc2_w 233, 3) := by decide +kernel
theorem dX11_sheet_18 : decode cX11_sheet 18 = .ok (.invokestatic 95, 3) := by decide +kernel
theorem dX11_sheet_21 : decode cX11_sheet 21 = .ok (.ifCond .eq 9, 3) := by decide +kernel
theorem dX11_sheet_24 : decode cX11_sheet 24 = .ok (.iload_n 3, 1) := by decide +kernel
theorem dX11_sheet_25 : decode cX11_sheet 25 = .ok (.bipush 60, 2) := by decide +kernel
theorem dX11_sheet_27 : decode cX11_sheet 27 = .ok (.if_icmp .le 5, 3) := by decide +kernel
theorem dX11_sheet_30 : decode cX11_sheet 30 = .ok (.iconst (-1), 1) := by decide +kernel
theorem dX11_sheet_31 : decode cX11_sheet 31 = .ok (.ireturn, 1) := by decide +kernel
theorem dX11_sheet_32 : decode cX11_sheet 32 = .ok (.iload_n 3, 1) := by decide +kernel
theorem dX11_sheet_33 : decode cX11_sheet 33 = .ok (.ifCond .ge 6, 3) := by decide +kernel
theorem dX11_sheet_36 : decode cX11_sheet 36 = .ok (.bipush (-14), 2) := by decide +kernel
theorem dX11_sheet_38 : decode cX11_sheet 38 = .ok (.ireturn, 1) := by decide +kernel
theorem dX11_sheet_39 : decode cX11_sheet 39 = .ok (.aload_n 0, 1) := by decide +kernel
theorem dX11_sheet_40 : decode cX11_sheet 40 = .ok (.getfield 82, 3) := by decide +kernel
theorem dX11_sheet_43 : decode cX11_sheet 43 = .ok (.iload_n 1, 1) := by decide +kernel
theorem dX11_sheet_44 : decode cX11_sheet 44 = .ok (.iload_n 2, 1) := by decide +kernel
theorem dX11_sheet_45 : decode cX11_sheet 45 = .ok (.iastore, 1) := by decide +kernel
theorem dX11_sheet_46 : decode cX11_sheet 46 = .ok (.aload_n 0, 1) := by decide +kernel
theorem dX11_sheet_47 : decode cX11_sheet 47 = .ok (.getfield 85, 3) := by decide +kernel
theorem dX11_sheet_50 : decode cX11_sheet 50 = .ok (.iload_n 1, 1) := by decide +kernel
theorem dX11_sheet_51 : decode cX11_sheet 51 = .ok (.iload_n 3, 1) := by decide +kernel
theorem dX11_sheet_52 : decode cX11_sheet 52 = .ok (.iastore, 1) := by decide +kernel
theorem dX11_sheet_53 : decode cX11_sheet 53 = .ok (.iconst 0, 1) := by decide +kernel
theorem dX11_sheet_54 : decode cX11_sheet 54 = .ok (.istore 4, 2) := by decide +kernel
theorem dX11_sheet_56 : decode cX11_sheet 56 = .ok (.iload 4, 2) := by decide +kernel
theorem dX11_sheet_58 : decode cX11_sheet 58 = .ok (.bipush 60, 2) := by decide +kernel
theorem dX11_sheet_60 : decode cX11_sheet 60 = .ok (.if_icmp .ge 22, 3) := by decide +kernel
theorem dX11_sheet_63 : decode cX11_sheet 63 = .ok (.aload_n 0, 1) := by decide +kernel
theorem dX11_sheet_64 : decode cX11_sheet 64 = .ok (.getfield 88, 3) := by decide +kernel
theorem dX11_sheet_67 : decode cX11_sheet 67 = .ok (.bipush 60, 2) := by decide +kernel
theorem dX11_sheet_69 : decode cX11_sheet 69 = .ok (.iload_n 1, 1) := by decide +kernel
theorem dX11_sheet_70 : decode cX11_sheet 70 = .ok (.imul, 1) := by decide +kernel
theorem dX11_sheet_71 : decode cX11_sheet 71 = .ok (.iload 4, 2) := by decide +kernel
theorem dX11_sheet_73 : decode cX11_sheet 73 = .ok (.iadd, 1) := by decide +kernel
theorem dX11_sheet_74 : decode cX11_sheet 74 = .ok (.iconst 0, 1) := by decide +kernel
theorem dX11_sheet_75 : decode cX11_sheet 75 = .ok (.iastore, 1) := by decide +kernel
theorem dX11_sheet_76 : decode cX11_sheet 76 = .ok (.iinc 4 1, 3) := by decide +kernel
theorem dX11_sheet_79 : decode cX11_sheet 79 = .ok (.goto (-23), 3) := by decide +kernel
theorem dX11_sheet_82 : decode cX11_sheet 82 = .ok (.iconst 1, 1) := by decide +kernel
theorem dX11_sheet_83 : decode cX11_sheet 83 = .ok (.ireturn, 1) := by decide +kernel
theorem dX11_lay_0 : decode cX11_lay 0 = .ok (.iload_n 1, 1) := by decide +kernel
theorem dX11_lay_1 : decode cX11_lay 1 = .ok (.i2l, 1) := by decide +kernel
theorem dX11_lay_2 : decode cX11_lay 2 = .ok (.lconst 0, 1) := by decide +kernel
theorem dX11_lay_3 : decode cX11_lay 3 = .ok (.ldc2_w 112, 3) := by decide +kernel
theorem dX11_lay_6 : decode cX11_lay 6 = .ok (.invokestatic 95, 3) := by decide +kernel
theorem dX11_lay_9 : decode cX11_lay 9 = .ok (.ifCond .ne 5, 3) := by decide +kernel
theorem dX11_lay_12 : decode cX11_lay 12 = .ok (.iconst (-1), 1) := by decide +kernel
theorem dX11_lay_13 : decode cX11_lay 13 = .ok (.ireturn, 1) := by decide +kernel
theorem dX11_lay_14 : decode cX11_lay 14 = .ok (.aload_n 0, 1) := by decide +kernel
theorem dX11_lay_15 : decode cX11_lay 15 = .ok (.getfield 82, 3) := by decide +kernel
theorem dX11_lay_18 : decode cX11_lay 18 = .ok (.iload_n 1, 1) := by decide +kernel
theorem dX11_lay_19 : decode cX11_lay 19 = .ok (.iaload, 1) := by decide +kernel
theorem dX11_lay_20 : decode cX11_lay 20 = .ok (.bipush (-4), 2) := by decide +kernel
theorem dX11_lay_22 : decode cX11_lay 22 = .ok (.if_icmp .ne 6, 3) := by decide +kernel
theorem dX11_lay_25 : decode cX11_lay 25 = .ok (.bipush (-11), 2) := by decide +kernel
theorem dX11_lay_27 : decode cX11_lay 27 = .ok (.ireturn, 1) := by decide +kernel
theorem dX11_lay_28 : decode cX11_lay 28 = .ok (.iload_n 2, 1) := by decide +kernel
theorem dX11_lay_29 : decode cX11_lay 29 = .ok (.i2l, 1) := by decide +kernel
theorem dX11_lay_30 : decode cX11_lay 30 = .ok (.lconst 0, 1) := by decide +kernel
theorem dX11_lay_31 : decode cX11_lay 31 = .ok (.aload_n 0, 1) := by decide +kernel
theorem dX11_lay_32 : decode cX11_lay 32 = .ok (.getfield 85, 3) := by decide +kernel
theorem dX11_lay_35 : decode cX11_lay 35 = .ok (.iload_n 1, 1) := by decide +kernel
theorem dX11_lay_36 : decode cX11_lay 36 = .ok (.iaload, 1) := by decide +kernel
theorem dX11_lay_37 : decode cX11_lay 37 = .ok (.iconst 1, 1) := by decide +kernel
theorem dX11_lay_38 : decode cX11_lay 38 = .ok (.isub, 1) := by decide +kernel
theorem dX11_lay_39 : decode cX11_lay 39 = .ok (.i2l, 1) := by decide +kernel
theorem dX11_lay_40 : decode cX11_lay 40 = .ok (.invokestatic 95, 3) := by decide +kernel
theorem dX11_lay_43 : decode cX11_lay 43 = .ok (.ifCond .ne 6, 3) := by decide +kernel
theorem dX11_lay_46 : decode cX11_lay 46 = .ok (.bipush (-12), 2) := by decide +kernel
theorem dX11_lay_48 : decode cX11_lay 48 = .ok (.ireturn, 1) := by decide +kernel
theorem dX11_lay_49 : decode cX11_lay 49 = .ok (.aload_n 0, 1) := by decide +kernel
theorem dX11_lay_50 : decode cX11_lay 50 = .ok (.getfield 88, 3) := by decide +kernel
theorem dX11_lay_53 : decode cX11_lay 53 = .ok (.bipush 60, 2) := by decide +kernel
theorem dX11_lay_55 : decode cX11_lay 55 = .ok (.iload_n 1, 1) := by decide +kernel
theorem dX11_lay_56 : decode cX11_lay 56 = .ok (.imul, 1) := by decide +kernel
theorem dX11_lay_57 : decode cX11_lay 57 = .ok (.iload_n 2, 1) := by decide +kernel
theorem dX11_lay_58 : decode cX11_lay 58 = .ok (.iadd, 1) := by decide +kernel
theorem dX11_lay_59 : decode cX11_lay 59 = .ok (.aload_n 0, 1) := by decide +kernel
theorem dX11_lay_60 : decode cX11_lay 60 = .ok (.getfield 82, 3) := by decide +kernel
theorem dX11_lay_63 : decode cX11_lay 63 = .ok (.iload_n 1, 1) := by decide +kernel
theorem dX11_lay_64 : decode cX11_lay 64 = .ok (.iaload, 1) := by decide +kernel
theorem dX11_lay_65 : decode cX11_lay 65 = .ok (.ifCond .ne 13, 3) := by decide +kernel
theorem dX11_lay_68 : decode cX11_lay 68 = .ok (.iload_n 3, 1) := by decide +kernel
theorem dX11_lay_69 : decode cX11_lay 69 = .ok (.bipush 24, 2) := by decide +kernel
theorem dX11_lay_71 : decode cX11_lay 71 = .ok (.ishl, 1) := by decide +kernel
theorem dX11_lay_72 : decode cX11_lay 72 = .ok (.bipush 24, 2) := by decide +kernel
theorem dX11_lay_74 : decode cX11_lay 74 = .ok (.ishr, 1) := by decide +kernel
theorem dX11_lay_75 : decode cX11_lay 75 = .ok (.goto 24, 3) := by decide +kernel
theorem dX11_lay_78 : decode cX11_lay 78 = .ok (.aload_n 0, 1) := by decide +kernel
theorem dX11_lay_79 : decode cX11_lay 79 = .ok (.getfield 82, 3) := by decide +kernel
theorem dX11_lay_82 : decode cX11_lay 82 = .ok (.iload_n 1, 1) := by decide +kernel
theorem dX11_lay_83 : decode cX11_lay 83 = .ok (.iaload, 1) := by decide +kernel
theorem dX11_lay_84 : decode cX11_lay 84 = .ok (.iconst 1, 1) := by decide +kernel
theorem dX11_lay_85 : decode cX11_lay 85 = .ok (.if_icmp .ne 13, 3) := by decide +kernel
theorem dX11_lay_88 : decode cX11_lay 88 = .ok (.iload_n 3, 1) := by decide +kernel
theorem dX11_lay_89 : decode cX11_lay 89 = .ok (.bipush 16, 2) := by decide +kernel
theorem dX11_lay_91 : decode cX11_lay 91 = .ok (.ishl, 1) := by decide +kernel
theorem dX11_lay_92 : decode cX11_lay 92 = .ok (.bipush 16, 2) := by decide +kernel
theorem dX11_lay_94 : decode cX11_lay 94 = .ok (.ishr, 1) := by decide +kernel
theorem dX11_lay_95 : decode cX11_lay 95 = .ok (.goto 4, 3) := by decide +kernel
theorem dX11_lay_98 : decode cX11_lay 98 = .ok (.iload_n 3, 1) := by decide +kernel
theorem dX11_lay_99 : decode cX11_lay 99 = .ok (.iastore, 1) := by decide +kernel
theorem dX11_lay_100 : decode cX11_lay 100 = .ok (.iconst 1, 1) := by decide +kernel
theorem dX11_lay_101 : decode cX11_lay 101 = .ok (.ireturn, 1) := by decide +kernel
theorem dX11_scan_0 : decode cX11_scan 0 = .ok (.iload_n 1, 1) := by decide +kernel
theorem dX11_scan_1 : decode cX11_scan 1 = .ok (.i2l, 1) := by decide +kernel
theorem dX11_scan_2 : decode cX11_scan 2 = .ok (.lconst 0, 1) := by decide +kernel
theorem dX11_scan_3 : decode cX11_scan 3 = .ok (.ldc2_w 112, 3) := by decide +kernel
theorem dX11_scan_6 : decode cX11_scan 6 = .ok (.invokestatic 95, 3) := by decide +kernel
theorem dX11_scan_9 : decode cX11_scan 9 = .ok (.ifCond .eq 28, 3) := by decide +kernel
theorem dX11_scan_12 : decode cX11_scan 12 = .ok (.iload_n 2, 1) := by decide +kernel
theorem dX11_scan_13 : decode cX11_scan 13 = .ok (.i2l, 1) := by decide +kernel
theorem dX11_scan_14 : decode cX11_scan 14 = .ok (.lconst 0, 1) := by decide +kernel
theorem dX11_scan_15 : decode cX11_scan 15 = .ok (.ldc2_w 233, 3) := by decide +kernel
theorem dX11_scan_18 : decode cX11_scan 18 = .ok (.invokestatic 95, 3) := by decide +kernel
theorem dX11_scan_21 : decode cX11_scan 21 = .ok (.ifCond .eq 16, 3) := by decide +kernel
theorem dX11_scan_24 : decode cX11_scan 24 = .ok (.iload 4, 2) := by decide +kernel
theorem dX11_scan_26 : decode cX11_scan 26 = .ok (.i2l, 1) := by decide +kernel
theorem dX11_scan_27 : decode cX11_scan 27 = .ok (.lconst 0, 1) := by decide +kernel
theorem dX11_scan_28 : decode cX11_scan 28 = .ok (.ldc2_w 107, 3) := by decide +kernel
theorem dX11_scan_31 : decode cX11_scan 31 = .ok (.invokestatic 95, 3) := by decide +kernel
theorem dX11_scan_34 : decode cX11_scan 34 = .ok (.ifCond .ne 5, 3) := by decide +kernel
theorem dX11_scan_37 : decode cX11_scan 37 = .ok (.iconst (-1), 1) := by decide +kernel
theorem dX11_scan_38 : decode cX11_scan 38 = .ok (.ireturn, 1) := by decide +kernel
theorem dX11_scan_39 : decode cX11_scan 39 = .ok (.aload_n 0, 1) := by decide +kernel
theorem dX11_scan_40 : decode cX11_scan 40 = .ok (.getfield 82, 3) := by decide +kernel
theorem dX11_scan_43 : decode cX11_scan 43 = .ok (.iload_n 1, 1) := by decide +kernel
theorem dX11_scan_44 : decode cX11_scan 44 = .ok (.iaload, 1) := by decide +kernel
theorem dX11_scan_45 : decode cX11_scan 45 = .ok (.iload_n 2, 1) := by decide +kernel
theorem dX11_scan_46 : decode cX11_scan 46 = .ok (.if_icmp .eq 22, 3) := by decide +kernel
theorem dX11_scan_49 : decode cX11_scan 49 = .ok (.aload_n 0, 1) := by decide +kernel
theorem dX11_scan_50 : decode cX11_scan 50 = .ok (.getfield 82, 3) := by decide +kernel
theorem dX11_scan_53 : decode cX11_scan 53 = .ok (.iload_n 1, 1) := by decide +kernel
theorem dX11_scan_54 : decode cX11_scan 54 = .ok (.iaload, 1) := by decide +kernel
theorem dX11_scan_55 : decode cX11_scan 55 = .ok (.bipush (-4), 2) := by decide +kernel
theorem dX11_scan_57 : decode cX11_scan 57 = .ok (.if_icmp .ne 8, 3) := by decide +kernel
theorem dX11_scan_60 : decode cX11_scan 60 = .ok (.bipush (-11), 2) := by decide +kernel
theorem dX11_scan_62 : decode cX11_scan 62 = .ok (.goto 5, 3) := by decide +kernel
theorem dX11_scan_65 : decode cX11_scan 65 = .ok (.bipush (-13), 2) := by decide +kernel
theorem dX11_scan_67 : decode cX11_scan 67 = .ok (.ireturn, 1) := by decide +kernel
theorem dX11_scan_68 : decode cX11_scan 68 = .ok (.aload_n 0, 1) := by decide +kernel
theorem dX11_scan_69 : decode cX11_scan 69 = .ok (.getfield 109, 3) := by decide +kernel
theorem dX11_scan_72 : decode cX11_scan 72 = .ok (.istore 5, 2) := by decide +kernel
theorem dX11_scan_74 : decode cX11_scan 74 = .ok (.iconst 0, 1) := by decide +kernel
theorem dX11_scan_75 : decode cX11_scan 75 = .ok (.istore 6, 2) := by decide +kernel
theorem dX11_scan_77 : decode cX11_scan 77 = .ok (.iload 6, 2) := by decide +kernel
theorem dX11_scan_79 : decode cX11_scan 79 = .ok (.iload 4, 2) := by decide +kernel
theorem dX11_scan_81 : decode cX11_scan 81 = .ok (.if_icmp .ge 118, 3) := by decide +kernel
theorem dX11_scan_84 : decode cX11_scan 84 = .ok (.iload_n 3, 1) := by decide +kernel
theorem dX11_scan_85 : decode cX11_scan 85 = .ok (.i2l, 1) := by decide +kernel
theorem dX11_scan_86 : decode cX11_scan 86 = .ok (.iconst 3, 1) := by decide +kernel
theorem dX11_scan_87 : decode cX11_scan 87 = .ok (.iload 6, 2) := by decide +kernel
theorem dX11_scan_89 : decode cX11_scan 89 = .ok (.imul, 1) := by decide +kernel
theorem dX11_scan_90 : decode cX11_scan 90 = .ok (.i2l, 1) := by decide +kernel
theorem dX11_scan_91 : decode cX11_scan 91 = .ok (.ladd, 1) := by decide +kernel
theorem dX11_scan_92 : decode cX11_scan 92 = .ok (.lstore 7, 2) := by decide +kernel
theorem dX11_scan_94 : decode cX11_scan 94 = .ok (.iconst 0, 1) := by decide +kernel
theorem dX11_scan_95 : decode cX11_scan 95 = .ok (.istore 9, 2) := by decide +kernel
theorem dX11_scan_97 : decode cX11_scan 97 = .ok (.lload 7, 2) := by decide +kernel
theorem dX11_scan_99 : decode cX11_scan 99 = .ok (.lconst 0, 1) := by decide +kernel
theorem dX11_scan_100 : decode cX11_scan 100 = .ok (.aload_n 0, 1) := by decide +kernel
theorem dX11_scan_101 : decode cX11_scan 101 = .ok (.getfield 85, 3) := by decide +kernel
theorem dX11_scan_104 : decode cX11_scan 104 = .ok (.iload_n 1, 1) := by decide +kernel
theorem dX11_scan_105 : decode cX11_scan 105 = .ok (.iaload, 1) := by decide +kernel
theorem dX11_scan_106 : decode cX11_scan 106 = .ok (.iconst 3, 1) := by decide +kernel
theorem dX11_scan_107 : decode cX11_scan 107 = .ok (.isub, 1) := by decide +kernel
theorem dX11_scan_108 : decode cX11_scan 108 = .ok (.i2l, 1) := by decide +kernel
theorem dX11_scan_109 : decode cX11_scan 109 = .ok (.invokestatic 95, 3) := by decide +kernel
theorem dX11_scan_112 : decode cX11_scan 112 = .ok (.ifCond .ne 10, 3) := by decide +kernel
theorem dX11_scan_115 : decode cX11_scan 115 = .ok (.bipush (-12), 2) := by decide +kernel
theorem dX11_scan_117 : decode cX11_scan 117 = .ok (.istore 9, 2) := by decide +kernel
theorem dX11_scan_119 : decode cX11_scan 119 = .ok (.goto 60, 3) := by decide +kernel
theorem dX11_scan_122 : decode cX11_scan 122 = .ok (.bipush 60, 2) := by decide +kernel
theorem dX11_scan_124 : decode cX11_scan 124 = .ok (.iload_n 1, 1) := by decide +kernel
theorem dX11_scan_125 : decode cX11_scan 125 = .ok (.imul, 1) := by decide +kernel
theorem dX11_scan_126 : decode cX11_scan 126 = .ok (.lload 7, 2) := by decide +kernel
theorem dX11_scan_128 : decode cX11_scan 128 = .ok (.l2i, 1) := by decide +kernel
theorem dX11_scan_129 : decode cX11_scan 129 = .ok (.iadd, 1) := by decide +kernel
theorem dX11_scan_130 : decode cX11_scan 130 = .ok (.istore 10, 2) := by decide +kernel
theorem dX11_scan_132 : decode cX11_scan 132 = .ok (.aload_n 0, 1) := by decide +kernel
theorem dX11_scan_133 : decode cX11_scan 133 = .ok (.aload_n 0, 1) := by decide +kernel
theorem dX11_scan_134 : decode cX11_scan 134 = .ok (.getfield 88, 3) := by decide +kernel
theorem dX11_scan_137 : decode cX11_scan 137 = .ok (.iload 10, 2) := by decide +kernel
theorem dX11_scan_139 : decode cX11_scan 139 = .ok (.iaload, 1) := by decide +kernel
theorem dX11_scan_140 : decode cX11_scan 140 = .ok (.aload_n 0, 1) := by decide +kernel
theorem dX11_scan_141 : decode cX11_scan 141 = .ok (.getfield 88, 3) := by decide +kernel
theorem dX11_scan_144 : decode cX11_scan 144 = .ok (.iload 10, 2) := by decide +kernel
theorem dX11_scan_146 : decode cX11_scan 146 = .ok (.iconst 1, 1) := by decide +kernel
theorem dX11_scan_147 : decode cX11_scan 147 = .ok (.iadd, 1) := by decide +kernel
theorem dX11_scan_148 : decode cX11_scan 148 = .ok (.iaload, 1) := by decide +kernel
theorem dX11_scan_149 : decode cX11_scan 149 = .ok (.aload_n 0, 1) := by decide +kernel
theorem dX11_scan_150 : decode cX11_scan 150 = .ok (.getfield 88, 3) := by decide +kernel
theorem dX11_scan_153 : decode cX11_scan 153 = .ok (.iload 10, 2) := by decide +kernel
theorem dX11_scan_155 : decode cX11_scan 155 = .ok (.iconst 2, 1) := by decide +kernel
theorem dX11_scan_156 : decode cX11_scan 156 = .ok (.iadd, 1) := by decide +kernel
theorem dX11_scan_157 : decode cX11_scan 157 = .ok (.iaload, 1) := by decide +kernel
theorem dX11_scan_158 : decode cX11_scan 158 = .ok (.invokevirtual 125, 3) := by decide +kernel
theorem dX11_scan_161 : decode cX11_scan 161 = .ok (.istore 11, 2) := by decide +kernel
theorem dX11_scan_163 : decode cX11_scan 163 = .ok (.iload 11, 2) := by decide +kernel
theorem dX11_scan_165 : decode cX11_scan 165 = .ok (.ifCond .ge 11, 3) := by decide +kernel
theorem dX11_scan_168 : decode cX11_scan 168 = .ok (.bipush (-20), 2) := by decide +kernel
theorem dX11_scan_170 : decode cX11_scan 170 = .ok (.iload 11, 2) := by decide +kernel
theorem dX11_scan_172 : decode cX11_scan 172 = .ok (.iadd, 1) := by decide +kernel
theorem dX11_scan_173 : decode cX11_scan 173 = .ok (.goto 4, 3) := by decide +kernel
theorem dX11_scan_176 : decode cX11_scan 176 = .ok (.iconst 0, 1) := by decide +kernel
theorem dX11_scan_177 : decode cX11_scan 177 = .ok (.istore 9, 2) := by decide +kernel
theorem dX11_scan_179 : decode cX11_scan 179 = .ok (.iload 9, 2) := by decide +kernel
theorem dX11_scan_181 : decode cX11_scan 181 = .ok (.ifCond .ge 12, 3) := by decide +kernel
theorem dX11_scan_184 : decode cX11_scan 184 = .ok (.aload_n 0, 1) := by decide +kernel
theorem dX11_scan_185 : decode cX11_scan 185 = .ok (.iload 5, 2) := by decide +kernel
theorem dX11_scan_187 : decode cX11_scan 187 = .ok (.putfield 109, 3) := by decide +kernel
theorem dX11_scan_190 : decode cX11_scan 190 = .ok (.iload 9, 2) := by decide +kernel
theorem dX11_scan_192 : decode cX11_scan 192 = .ok (.ireturn, 1) := by decide +kernel
theorem dX11_scan_193 : decode cX11_scan 193 = .ok (.iinc 6 1, 3) := by decide +kernel
theorem dX11_scan_196 : decode cX11_scan 196 = .ok (.goto (-119), 3) := by decide +kernel
theorem dX11_scan_199 : decode cX11_scan 199 = .ok (.aload_n 0, 1) := by decide +kernel
theorem dX11_scan_200 : decode cX11_scan 200 = .ok (.getfield 109, 3) := by decide +kernel
theorem dX11_scan_203 : decode cX11_scan 203 = .ok (.ireturn, 1) := by decide +kernel
theorem dX11_count_0 : decode cX11_count 0 = .ok (.iload_n 1, 1) := by decide +kernel
theorem dX11_count_1 : decode cX11_count 1 = .ok (.tableswitch 135 0 5 #[39, 44, 49, 54, 59, 112], 39) := by decide +kernel
theorem dX11_count_40 : decode cX11_count 40 = .ok (.aload_n 0, 1) := by decide +kernel
theorem dX11_count_41 : decode cX11_count 41 = .ok (.getfield 91, 3) := by decide +kernel
theorem dX11_count_44 : decode cX11_count 44 = .ok (.ireturn, 1) := by decide +kernel
theorem dX11_count_45 : decode cX11_count 45 = .ok (.aload_n 0, 1) := by decide +kernel
theorem dX11_count_46 : decode cX11_count 46 = .ok (.getfield 109, 3) := by decide +kernel
theorem dX11_count_49 : decode cX11_count 49 = .ok (.ireturn, 1) := by decide +kernel
theorem dX11_count_50 : decode cX11_count 50 = .ok (.aload_n 0, 1) := by decide +kernel
theorem dX11_count_51 : decode cX11_count 51 = .ok (.getfield 166, 3) := by decide +kernel
theorem dX11_count_54 : decode cX11_count 54 = .ok (.ireturn, 1) := by decide +kernel
theorem dX11_count_55 : decode cX11_count 55 = .ok (.aload_n 0, 1) := by decide +kernel
theorem dX11_count_56 : decode cX11_count 56 = .ok (.getfield 169, 3) := by decide +kernel
theorem dX11_count_59 : decode cX11_count 59 = .ok (.ireturn, 1) := by decide +kernel
theorem dX11_count_60 : decode cX11_count 60 = .ok (.aload_n 0, 1) := by decide +kernel
theorem dX11_count_61 : decode cX11_count 61 = .ok (.invokevirtual 133, 3) := by decide +kernel
theorem dX11_count_64 : decode cX11_count 64 = .ok (.iconst 0, 1) := by decide +kernel
theorem dX11_count_65 : decode cX11_count 65 = .ok (.istore_n 2, 1) := by decide +kernel
theorem dX11_count_66 : decode cX11_count 66 = .ok (.iconst 0, 1) := by decide +kernel
theorem dX11_count_67 : decode cX11_count 67 = .ok (.istore_n 3, 1) := by decide +kernel
theorem dX11_count_68 : decode cX11_count 68 = .ok (.iload_n 3, 1) := by decide +kernel
theorem dX11_count_69 : decode cX11_count 69 = .ok (.aload_n 0, 1) := by decide +kernel
theorem dX11_count_70 : decode cX11_count 70 = .ok (.getfield 91, 3) := by decide +kernel
theorem dX11_count_73 : decode cX11_count 73 = .ok (.if_icmp .ge 38, 3) := by decide +kernel
theorem dX11_count_76 : decode cX11_count 76 = .ok (.iload_n 2, 1) := by decide +kernel
theorem dX11_count_77 : decode cX11_count 77 = .ok (.aload_n 0, 1) := by decide +kernel
theorem dX11_count_78 : decode cX11_count 78 = .ok (.iload_n 3, 1) := by decide +kernel
theorem dX11_count_79 : decode cX11_count 79 = .ok (.invokevirtual 136, 3) := by decide +kernel
theorem dX11_count_82 : decode cX11_count 82 = .ok (.ifCond .eq 20, 3) := by decide +kernel
theorem dX11_count_85 : decode cX11_count 85 = .ok (.aload_n 0, 1) := by decide +kernel
theorem dX11_count_86 : decode cX11_count 86 = .ok (.getfield 43, 3) := by decide +kernel
theorem dX11_count_89 : decode cX11_count 89 = .ok (.iload_n 3, 1) := by decide +kernel
theorem dX11_count_90 : decode cX11_count 90 = .ok (.iaload, 1) := by decide +kernel
theorem dX11_count_91 : decode cX11_count 91 = .ok (.invokestatic 139, 3) := by decide +kernel
theorem dX11_count_94 : decode cX11_count 94 = .ok (.iload_n 3, 1) := by decide +kernel
theorem dX11_count_95 : decode cX11_count 95 = .ok (.if_icmp .ne 7, 3) := by decide +kernel
theorem dX11_count_98 : decode cX11_count 98 = .ok (.iconst 1, 1) := by decide +kernel
theorem dX11_count_99 : decode cX11_count 99 = .ok (.goto 4, 3) := by decide +kernel
theorem dX11_count_102 : decode cX11_count 102 = .ok (.iconst 0, 1) := by decide +kernel
theorem dX11_count_103 : decode cX11_count 103 = .ok (.iadd, 1) := by decide +kernel
theorem dX11_count_104 : decode cX11_count 104 = .ok (.istore_n 2, 1) := by decide +kernel
theorem dX11_count_105 : decode cX11_count 105 = .ok (.iinc 3 1, 3) := by decide +kernel
theorem dX11_count_108 : decode cX11_count 108 = .ok (.goto (-40), 3) := by decide +kernel
theorem dX11_count_111 : decode cX11_count 111 = .ok (.iload_n 2, 1) := by decide +kernel
theorem dX11_count_112 : decode cX11_count 112 = .ok (.ireturn, 1) := by decide +kernel
theorem dX11_count_113 : decode cX11_count 113 = .ok (.aload_n 0, 1) := by decide +kernel
theorem dX11_count_114 : decode cX11_count 114 = .ok (.getfield 82, 3) := by decide +kernel
theorem dX11_count_117 : decode cX11_count 117 = .ok (.iconst 0, 1) := by decide +kernel
theorem dX11_count_118 : decode cX11_count 118 = .ok (.iaload, 1) := by decide +kernel
theorem dX11_count_119 : decode cX11_count 119 = .ok (.bipush (-4), 2) := by decide +kernel
theorem dX11_count_121 : decode cX11_count 121 = .ok (.if_icmp .ne 8, 3) := by decide +kernel
theorem dX11_count_124 : decode cX11_count 124 = .ok (.bipush (-4), 2) := by decide +kernel
theorem dX11_count_126 : decode cX11_count 126 = .ok (.goto 9, 3) := by decide +kernel
theorem dX11_count_129 : decode cX11_count 129 = .ok (.aload_n 0, 1) := by decide +kernel
theorem dX11_count_130 : decode cX11_count 130 = .ok (.getfield 85, 3) := by decide +kernel
theorem dX11_count_133 : decode cX11_count 133 = .ok (.iconst 0, 1) := by decide +kernel
theorem dX11_count_134 : decode cX11_count 134 = .ok (.iaload, 1) := by decide +kernel
theorem dX11_count_135 : decode cX11_count 135 = .ok (.ireturn, 1) := by decide +kernel
theorem dX11_count_136 : decode cX11_count 136 = .ok (.iconst (-1), 1) := by decide +kernel
theorem dX11_count_137 : decode cX11_count 137 = .ok (.ireturn, 1) := by decide +kernel
end
