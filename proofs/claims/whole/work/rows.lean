section
-- ===== PART A: goes FIRST, ahead of the names: the tables' words, and 'selects' of the private methods out of them =====
/-- a private method of a class that the tables say can be made, by its rows of tables_1 -/
def lw_okq (q : MethodName × Nat) : Prop := (q.1.cls ≠ "java/lang/invoke/MethodHandle" ∧ q.1.cls ≠ "java/lang/invoke/VarHandle") ∧ Cond.instantiable q.1.cls q.2 ∈ tables_1 ∧ Cond.privateMethod q.1 ∈ tables_1 ∧ Cond.instanceMethod q.1 ∈ tables_1
theorem lw_p0 : lw_okq (⟨"AngleNet", "goForward", "()V"⟩, 6) := ⟨⟨by decide +kernel, by decide +kernel⟩, List.mem_of_getElem? (i := 12) (by decide +kernel), List.mem_of_getElem? (i := 221) (by decide +kernel), List.mem_of_getElem? (i := 222) (by decide +kernel)⟩
theorem lw_p1 : lw_okq (⟨"AngleNet$Acts", "putAll", "(LAngleNet$Net;[I)V"⟩, 5) := ⟨⟨by decide +kernel, by decide +kernel⟩, List.mem_of_getElem? (i := 46) (by decide +kernel), List.mem_of_getElem? (i := 229) (by decide +kernel), List.mem_of_getElem? (i := 230) (by decide +kernel)⟩
theorem lw_p2 : lw_okq (⟨"AngleNet$Net", "thirdsAt", "(I)I"⟩, 5) := ⟨⟨by decide +kernel, by decide +kernel⟩, List.mem_of_getElem? (i := 20) (by decide +kernel), List.mem_of_getElem? (i := 313) (by decide +kernel), List.mem_of_getElem? (i := 314) (by decide +kernel)⟩
theorem lw_p3 : lw_okq (⟨"AngleNet$Net", "bitOf", "(II)I"⟩, 5) := ⟨⟨by decide +kernel, by decide +kernel⟩, List.mem_of_getElem? (i := 20) (by decide +kernel), List.mem_of_getElem? (i := 317) (by decide +kernel), List.mem_of_getElem? (i := 318) (by decide +kernel)⟩
theorem lw_p4 : lw_okq (⟨"AngleNet$Net", "hangingWith", "(II)I"⟩, 5) := ⟨⟨by decide +kernel, by decide +kernel⟩, List.mem_of_getElem? (i := 20) (by decide +kernel), List.mem_of_getElem? (i := 321) (by decide +kernel), List.mem_of_getElem? (i := 322) (by decide +kernel)⟩
theorem lw_p5 : lw_okq (⟨"AngleNet$Net", "widened", "(II)I"⟩, 5) := ⟨⟨by decide +kernel, by decide +kernel⟩, List.mem_of_getElem? (i := 20) (by decide +kernel), List.mem_of_getElem? (i := 325) (by decide +kernel), List.mem_of_getElem? (i := 326) (by decide +kernel)⟩
theorem lw_p6 : lw_okq (⟨"AngleNet", "sumOrNone", "(I)I"⟩, 6) := ⟨⟨by decide +kernel, by decide +kernel⟩, List.mem_of_getElem? (i := 12) (by decide +kernel), List.mem_of_getElem? (i := 329) (by decide +kernel), List.mem_of_getElem? (i := 330) (by decide +kernel)⟩
theorem lw_p7 : lw_okq (⟨"AngleNet$Giver", "begin", "(II)V"⟩, 11) := ⟨⟨by decide +kernel, by decide +kernel⟩, List.mem_of_getElem? (i := 68) (by decide +kernel), List.mem_of_getElem? (i := 345) (by decide +kernel), List.mem_of_getElem? (i := 346) (by decide +kernel)⟩
theorem lw_p8 : lw_okq (⟨"AngleNet$Giver", "weigh", "(I)V"⟩, 11) := ⟨⟨by decide +kernel, by decide +kernel⟩, List.mem_of_getElem? (i := 68) (by decide +kernel), List.mem_of_getElem? (i := 355) (by decide +kernel), List.mem_of_getElem? (i := 356) (by decide +kernel)⟩
theorem lw_p9 : lw_okq (⟨"AngleNet$Giver", "level", "(II)V"⟩, 11) := ⟨⟨by decide +kernel, by decide +kernel⟩, List.mem_of_getElem? (i := 68) (by decide +kernel), List.mem_of_getElem? (i := 368) (by decide +kernel), List.mem_of_getElem? (i := 369) (by decide +kernel)⟩
theorem lw_p10 : lw_okq (⟨"AngleNet$Giver", "push", "(III)I"⟩, 11) := ⟨⟨by decide +kernel, by decide +kernel⟩, List.mem_of_getElem? (i := 68) (by decide +kernel), List.mem_of_getElem? (i := 376) (by decide +kernel), List.mem_of_getElem? (i := 377) (by decide +kernel)⟩
theorem lw_p11 : lw_okq (⟨"AngleNet$Giver", "reaches", "(II)Z"⟩, 11) := ⟨⟨by decide +kernel, by decide +kernel⟩, List.mem_of_getElem? (i := 68) (by decide +kernel), List.mem_of_getElem? (i := 380) (by decide +kernel), List.mem_of_getElem? (i := 381) (by decide +kernel)⟩
theorem lw_p12 : lw_okq (⟨"AngleNet$Giver", "seeFromThird", "(II)I"⟩, 11) := ⟨⟨by decide +kernel, by decide +kernel⟩, List.mem_of_getElem? (i := 68) (by decide +kernel), List.mem_of_getElem? (i := 384) (by decide +kernel), List.mem_of_getElem? (i := 385) (by decide +kernel)⟩
theorem lw_p13 : lw_okq (⟨"AngleNet$Giver", "seeFromPost", "(II)I"⟩, 11) := ⟨⟨by decide +kernel, by decide +kernel⟩, List.mem_of_getElem? (i := 68) (by decide +kernel), List.mem_of_getElem? (i := 389) (by decide +kernel), List.mem_of_getElem? (i := 390) (by decide +kernel)⟩
theorem lw_p14 : lw_okq (⟨"AngleNet$Giver", "nodeBefore", "(I)I"⟩, 11) := ⟨⟨by decide +kernel, by decide +kernel⟩, List.mem_of_getElem? (i := 68) (by decide +kernel), List.mem_of_getElem? (i := 393) (by decide +kernel), List.mem_of_getElem? (i := 394) (by decide +kernel)⟩
theorem lw_p15 : lw_okq (⟨"AngleNet$Giver", "sink", "(I)V"⟩, 11) := ⟨⟨by decide +kernel, by decide +kernel⟩, List.mem_of_getElem? (i := 68) (by decide +kernel), List.mem_of_getElem? (i := 397) (by decide +kernel), List.mem_of_getElem? (i := 398) (by decide +kernel)⟩
def lw_privs_1 : List (MethodName × Nat) := [(⟨"AngleNet", "goForward", "()V"⟩, 6), (⟨"AngleNet$Acts", "putAll", "(LAngleNet$Net;[I)V"⟩, 5), (⟨"AngleNet$Net", "thirdsAt", "(I)I"⟩, 5), (⟨"AngleNet$Net", "bitOf", "(II)I"⟩, 5), (⟨"AngleNet$Net", "hangingWith", "(II)I"⟩, 5), (⟨"AngleNet$Net", "widened", "(II)I"⟩, 5), (⟨"AngleNet", "sumOrNone", "(I)I"⟩, 6), (⟨"AngleNet$Giver", "begin", "(II)V"⟩, 11), (⟨"AngleNet$Giver", "weigh", "(I)V"⟩, 11), (⟨"AngleNet$Giver", "level", "(II)V"⟩, 11), (⟨"AngleNet$Giver", "push", "(III)I"⟩, 11), (⟨"AngleNet$Giver", "reaches", "(II)Z"⟩, 11), (⟨"AngleNet$Giver", "seeFromThird", "(II)I"⟩, 11), (⟨"AngleNet$Giver", "seeFromPost", "(II)I"⟩, 11), (⟨"AngleNet$Giver", "nodeBefore", "(I)I"⟩, 11), (⟨"AngleNet$Giver", "sink", "(I)V"⟩, 11)]
theorem lw_r1 : ∀ q ∈ lw_privs_1, lw_okq q := List.forall_mem_cons.mpr ⟨lw_p0, List.forall_mem_cons.mpr ⟨lw_p1, List.forall_mem_cons.mpr ⟨lw_p2, List.forall_mem_cons.mpr ⟨lw_p3, List.forall_mem_cons.mpr ⟨lw_p4, List.forall_mem_cons.mpr ⟨lw_p5, List.forall_mem_cons.mpr ⟨lw_p6, List.forall_mem_cons.mpr ⟨lw_p7, List.forall_mem_cons.mpr ⟨lw_p8, List.forall_mem_cons.mpr ⟨lw_p9, List.forall_mem_cons.mpr ⟨lw_p10, List.forall_mem_cons.mpr ⟨lw_p11, List.forall_mem_cons.mpr ⟨lw_p12, List.forall_mem_cons.mpr ⟨lw_p13, List.forall_mem_cons.mpr ⟨lw_p14, List.forall_mem_cons.mpr ⟨lw_p15, fun _ h => absurd h List.not_mem_nil⟩⟩⟩⟩⟩⟩⟩⟩⟩⟩⟩⟩⟩⟩⟩⟩
theorem lw_p16 : lw_okq (⟨"AngleNet$Bars", "lookAtPosts", "(I)V"⟩, 7) := ⟨⟨by decide +kernel, by decide +kernel⟩, List.mem_of_getElem? (i := 108) (by decide +kernel), List.mem_of_getElem? (i := 461) (by decide +kernel), List.mem_of_getElem? (i := 462) (by decide +kernel)⟩
theorem lw_p17 : lw_okq (⟨"AngleNet$Bars", "lookAtThirds", "()V"⟩, 7) := ⟨⟨by decide +kernel, by decide +kernel⟩, List.mem_of_getElem? (i := 108) (by decide +kernel), List.mem_of_getElem? (i := 469) (by decide +kernel), List.mem_of_getElem? (i := 470) (by decide +kernel)⟩
theorem lw_p18 : lw_okq (⟨"AngleNet$Bars", "thirdsAtToldPosts", "()I"⟩, 7) := ⟨⟨by decide +kernel, by decide +kernel⟩, List.mem_of_getElem? (i := 108) (by decide +kernel), List.mem_of_getElem? (i := 475) (by decide +kernel), List.mem_of_getElem? (i := 476) (by decide +kernel)⟩
theorem lw_p19 : lw_okq (⟨"AngleNet$Bars", "isBar", "(II)Z"⟩, 7) := ⟨⟨by decide +kernel, by decide +kernel⟩, List.mem_of_getElem? (i := 108) (by decide +kernel), List.mem_of_getElem? (i := 485) (by decide +kernel), List.mem_of_getElem? (i := 486) (by decide +kernel)⟩
theorem lw_p20 : lw_okq (⟨"AngleNet$Bars", "roomFor", "(I)I"⟩, 7) := ⟨⟨by decide +kernel, by decide +kernel⟩, List.mem_of_getElem? (i := 108) (by decide +kernel), List.mem_of_getElem? (i := 489) (by decide +kernel), List.mem_of_getElem? (i := 490) (by decide +kernel)⟩
theorem lw_p21 : lw_okq (⟨"AngleNet$Bars", "mostOf", "(I)I"⟩, 7) := ⟨⟨by decide +kernel, by decide +kernel⟩, List.mem_of_getElem? (i := 108) (by decide +kernel), List.mem_of_getElem? (i := 493) (by decide +kernel), List.mem_of_getElem? (i := 494) (by decide +kernel)⟩
theorem lw_p22 : lw_okq (⟨"AngleNet$Bars", "leastOf", "(I)I"⟩, 7) := ⟨⟨by decide +kernel, by decide +kernel⟩, List.mem_of_getElem? (i := 108) (by decide +kernel), List.mem_of_getElem? (i := 497) (by decide +kernel), List.mem_of_getElem? (i := 498) (by decide +kernel)⟩
theorem lw_p23 : lw_okq (⟨"AngleNet", "givenOpposite", "(II)I"⟩, 6) := ⟨⟨by decide +kernel, by decide +kernel⟩, List.mem_of_getElem? (i := 12) (by decide +kernel), List.mem_of_getElem? (i := 505) (by decide +kernel), List.mem_of_getElem? (i := 506) (by decide +kernel)⟩
theorem lw_p24 : lw_okq (⟨"AngleNetModel", "begin", "()V"⟩, 19) := ⟨⟨by decide +kernel, by decide +kernel⟩, List.mem_of_getElem? (i := 533) (by decide +kernel), List.mem_of_getElem? (i := 539) (by decide +kernel), List.mem_of_getElem? (i := 540) (by decide +kernel)⟩
theorem lw_p25 : lw_okq (⟨"AngleNetModel", "arePair", "(II)Z"⟩, 19) := ⟨⟨by decide +kernel, by decide +kernel⟩, List.mem_of_getElem? (i := 533) (by decide +kernel), List.mem_of_getElem? (i := 612) (by decide +kernel), List.mem_of_getElem? (i := 613) (by decide +kernel)⟩
theorem lw_p26 : lw_okq (⟨"AngleNetModel", "isPost", "(I)Z"⟩, 19) := ⟨⟨by decide +kernel, by decide +kernel⟩, List.mem_of_getElem? (i := 533) (by decide +kernel), List.mem_of_getElem? (i := 616) (by decide +kernel), List.mem_of_getElem? (i := 617) (by decide +kernel)⟩
theorem lw_p27 : lw_okq (⟨"AngleNetModel", "arrowOf", "(II)I"⟩, 19) := ⟨⟨by decide +kernel, by decide +kernel⟩, List.mem_of_getElem? (i := 533) (by decide +kernel), List.mem_of_getElem? (i := 620) (by decide +kernel), List.mem_of_getElem? (i := 621) (by decide +kernel)⟩
theorem lw_p28 : lw_okq (⟨"AngleNetModel", "put", "(IIII)V"⟩, 19) := ⟨⟨by decide +kernel, by decide +kernel⟩, List.mem_of_getElem? (i := 533) (by decide +kernel), List.mem_of_getElem? (i := 624) (by decide +kernel), List.mem_of_getElem? (i := 625) (by decide +kernel)⟩
theorem lw_p29 : lw_okq (⟨"AngleNetModel", "write", "(III)V"⟩, 19) := ⟨⟨by decide +kernel, by decide +kernel⟩, List.mem_of_getElem? (i := 533) (by decide +kernel), List.mem_of_getElem? (i := 628) (by decide +kernel), List.mem_of_getElem? (i := 629) (by decide +kernel)⟩
theorem lw_p30 : lw_okq (⟨"AngleNetModel", "keepThirds", "(III)V"⟩, 19) := ⟨⟨by decide +kernel, by decide +kernel⟩, List.mem_of_getElem? (i := 533) (by decide +kernel), List.mem_of_getElem? (i := 632) (by decide +kernel), List.mem_of_getElem? (i := 633) (by decide +kernel)⟩
theorem lw_p31 : lw_okq (⟨"AngleNetModel", "sideOf", "(II)I"⟩, 19) := ⟨⟨by decide +kernel, by decide +kernel⟩, List.mem_of_getElem? (i := 533) (by decide +kernel), List.mem_of_getElem? (i := 644) (by decide +kernel), List.mem_of_getElem? (i := 645) (by decide +kernel)⟩
def lw_privs_2 : List (MethodName × Nat) := [(⟨"AngleNet$Bars", "lookAtPosts", "(I)V"⟩, 7), (⟨"AngleNet$Bars", "lookAtThirds", "()V"⟩, 7), (⟨"AngleNet$Bars", "thirdsAtToldPosts", "()I"⟩, 7), (⟨"AngleNet$Bars", "isBar", "(II)Z"⟩, 7), (⟨"AngleNet$Bars", "roomFor", "(I)I"⟩, 7), (⟨"AngleNet$Bars", "mostOf", "(I)I"⟩, 7), (⟨"AngleNet$Bars", "leastOf", "(I)I"⟩, 7), (⟨"AngleNet", "givenOpposite", "(II)I"⟩, 6), (⟨"AngleNetModel", "begin", "()V"⟩, 19), (⟨"AngleNetModel", "arePair", "(II)Z"⟩, 19), (⟨"AngleNetModel", "isPost", "(I)Z"⟩, 19), (⟨"AngleNetModel", "arrowOf", "(II)I"⟩, 19), (⟨"AngleNetModel", "put", "(IIII)V"⟩, 19), (⟨"AngleNetModel", "write", "(III)V"⟩, 19), (⟨"AngleNetModel", "keepThirds", "(III)V"⟩, 19), (⟨"AngleNetModel", "sideOf", "(II)I"⟩, 19)]
theorem lw_r2 : ∀ q ∈ lw_privs_2, lw_okq q := List.forall_mem_cons.mpr ⟨lw_p16, List.forall_mem_cons.mpr ⟨lw_p17, List.forall_mem_cons.mpr ⟨lw_p18, List.forall_mem_cons.mpr ⟨lw_p19, List.forall_mem_cons.mpr ⟨lw_p20, List.forall_mem_cons.mpr ⟨lw_p21, List.forall_mem_cons.mpr ⟨lw_p22, List.forall_mem_cons.mpr ⟨lw_p23, List.forall_mem_cons.mpr ⟨lw_p24, List.forall_mem_cons.mpr ⟨lw_p25, List.forall_mem_cons.mpr ⟨lw_p26, List.forall_mem_cons.mpr ⟨lw_p27, List.forall_mem_cons.mpr ⟨lw_p28, List.forall_mem_cons.mpr ⟨lw_p29, List.forall_mem_cons.mpr ⟨lw_p30, List.forall_mem_cons.mpr ⟨lw_p31, fun _ h => absurd h List.not_mem_nil⟩⟩⟩⟩⟩⟩⟩⟩⟩⟩⟩⟩⟩⟩⟩⟩
theorem lw_p32 : lw_okq (⟨"AngleNetModel", "oppositeCorner", "(III)I"⟩, 19) := ⟨⟨by decide +kernel, by decide +kernel⟩, List.mem_of_getElem? (i := 533) (by decide +kernel), List.mem_of_getElem? (i := 656) (by decide +kernel), List.mem_of_getElem? (i := 657) (by decide +kernel)⟩
theorem lw_p33 : lw_okq (⟨"AngleNetModel", "takeThirds", "(III)V"⟩, 19) := ⟨⟨by decide +kernel, by decide +kernel⟩, List.mem_of_getElem? (i := 533) (by decide +kernel), List.mem_of_getElem? (i := 668) (by decide +kernel), List.mem_of_getElem? (i := 669) (by decide +kernel)⟩
theorem lw_p34 : lw_okq (⟨"AngleNetModel", "cornersAt", "(I)I"⟩, 19) := ⟨⟨by decide +kernel, by decide +kernel⟩, List.mem_of_getElem? (i := 533) (by decide +kernel), List.mem_of_getElem? (i := 680) (by decide +kernel), List.mem_of_getElem? (i := 681) (by decide +kernel)⟩
theorem lw_p35 : lw_okq (⟨"AngleNetModel", "sidesAt", "(III)I"⟩, 19) := ⟨⟨by decide +kernel, by decide +kernel⟩, List.mem_of_getElem? (i := 533) (by decide +kernel), List.mem_of_getElem? (i := 684) (by decide +kernel), List.mem_of_getElem? (i := 685) (by decide +kernel)⟩
theorem lw_p36 : lw_okq (⟨"AngleNetModel", "pieces", "(I)I"⟩, 19) := ⟨⟨by decide +kernel, by decide +kernel⟩, List.mem_of_getElem? (i := 533) (by decide +kernel), List.mem_of_getElem? (i := 688) (by decide +kernel), List.mem_of_getElem? (i := 689) (by decide +kernel)⟩
theorem lw_p37 : lw_okq (⟨"AngleNetModel", "hasPost", "(II)Z"⟩, 19) := ⟨⟨by decide +kernel, by decide +kernel⟩, List.mem_of_getElem? (i := 533) (by decide +kernel), List.mem_of_getElem? (i := 692) (by decide +kernel), List.mem_of_getElem? (i := 693) (by decide +kernel)⟩
theorem lw_p38 : lw_okq (⟨"AngleNetModel", "hang", "(III)Z"⟩, 19) := ⟨⟨by decide +kernel, by decide +kernel⟩, List.mem_of_getElem? (i := 533) (by decide +kernel), List.mem_of_getElem? (i := 696) (by decide +kernel), List.mem_of_getElem? (i := 697) (by decide +kernel)⟩
theorem lw_p39 : lw_okq (⟨"AngleNetModel", "sumOfRow", "(I)I"⟩, 19) := ⟨⟨by decide +kernel, by decide +kernel⟩, List.mem_of_getElem? (i := 533) (by decide +kernel), List.mem_of_getElem? (i := 700) (by decide +kernel), List.mem_of_getElem? (i := 701) (by decide +kernel)⟩
theorem lw_p40 : lw_okq (⟨"AngleNetModel", "hasRow", "()Z"⟩, 19) := ⟨⟨by decide +kernel, by decide +kernel⟩, List.mem_of_getElem? (i := 533) (by decide +kernel), List.mem_of_getElem? (i := 704) (by decide +kernel), List.mem_of_getElem? (i := 705) (by decide +kernel)⟩
theorem lw_p41 : lw_okq (⟨"AngleNetModel", "canWith", "(I)Z"⟩, 19) := ⟨⟨by decide +kernel, by decide +kernel⟩, List.mem_of_getElem? (i := 533) (by decide +kernel), List.mem_of_getElem? (i := 708) (by decide +kernel), List.mem_of_getElem? (i := 709) (by decide +kernel)⟩
theorem lw_p42 : lw_okq (⟨"AngleNetModel", "fill", "(Z)V"⟩, 19) := ⟨⟨by decide +kernel, by decide +kernel⟩, List.mem_of_getElem? (i := 533) (by decide +kernel), List.mem_of_getElem? (i := 712) (by decide +kernel), List.mem_of_getElem? (i := 713) (by decide +kernel)⟩
theorem lw_p43 : lw_okq (⟨"AngleNetModel", "clearWays", "()V"⟩, 19) := ⟨⟨by decide +kernel, by decide +kernel⟩, List.mem_of_getElem? (i := 533) (by decide +kernel), List.mem_of_getElem? (i := 716) (by decide +kernel), List.mem_of_getElem? (i := 717) (by decide +kernel)⟩
theorem lw_p44 : lw_okq (⟨"AngleNetModel", "come", "(III)V"⟩, 19) := ⟨⟨by decide +kernel, by decide +kernel⟩, List.mem_of_getElem? (i := 533) (by decide +kernel), List.mem_of_getElem? (i := 720) (by decide +kernel), List.mem_of_getElem? (i := 721) (by decide +kernel)⟩
theorem lw_p45 : lw_okq (⟨"AngleNetModel", "spread", "(IZ)V"⟩, 19) := ⟨⟨by decide +kernel, by decide +kernel⟩, List.mem_of_getElem? (i := 533) (by decide +kernel), List.mem_of_getElem? (i := 724) (by decide +kernel), List.mem_of_getElem? (i := 725) (by decide +kernel)⟩
theorem lw_p46 : lw_okq (⟨"AngleNetModel", "wanting", "(Z)I"⟩, 19) := ⟨⟨by decide +kernel, by decide +kernel⟩, List.mem_of_getElem? (i := 533) (by decide +kernel), List.mem_of_getElem? (i := 728) (by decide +kernel), List.mem_of_getElem? (i := 729) (by decide +kernel)⟩
theorem lw_p47 : lw_okq (⟨"AngleNetModel", "wayRoom", "(II)I"⟩, 19) := ⟨⟨by decide +kernel, by decide +kernel⟩, List.mem_of_getElem? (i := 533) (by decide +kernel), List.mem_of_getElem? (i := 732) (by decide +kernel), List.mem_of_getElem? (i := 733) (by decide +kernel)⟩
def lw_privs_3 : List (MethodName × Nat) := [(⟨"AngleNetModel", "oppositeCorner", "(III)I"⟩, 19), (⟨"AngleNetModel", "takeThirds", "(III)V"⟩, 19), (⟨"AngleNetModel", "cornersAt", "(I)I"⟩, 19), (⟨"AngleNetModel", "sidesAt", "(III)I"⟩, 19), (⟨"AngleNetModel", "pieces", "(I)I"⟩, 19), (⟨"AngleNetModel", "hasPost", "(II)Z"⟩, 19), (⟨"AngleNetModel", "hang", "(III)Z"⟩, 19), (⟨"AngleNetModel", "sumOfRow", "(I)I"⟩, 19), (⟨"AngleNetModel", "hasRow", "()Z"⟩, 19), (⟨"AngleNetModel", "canWith", "(I)Z"⟩, 19), (⟨"AngleNetModel", "fill", "(Z)V"⟩, 19), (⟨"AngleNetModel", "clearWays", "()V"⟩, 19), (⟨"AngleNetModel", "come", "(III)V"⟩, 19), (⟨"AngleNetModel", "spread", "(IZ)V"⟩, 19), (⟨"AngleNetModel", "wanting", "(Z)I"⟩, 19), (⟨"AngleNetModel", "wayRoom", "(II)I"⟩, 19)]
theorem lw_r3 : ∀ q ∈ lw_privs_3, lw_okq q := List.forall_mem_cons.mpr ⟨lw_p32, List.forall_mem_cons.mpr ⟨lw_p33, List.forall_mem_cons.mpr ⟨lw_p34, List.forall_mem_cons.mpr ⟨lw_p35, List.forall_mem_cons.mpr ⟨lw_p36, List.forall_mem_cons.mpr ⟨lw_p37, List.forall_mem_cons.mpr ⟨lw_p38, List.forall_mem_cons.mpr ⟨lw_p39, List.forall_mem_cons.mpr ⟨lw_p40, List.forall_mem_cons.mpr ⟨lw_p41, List.forall_mem_cons.mpr ⟨lw_p42, List.forall_mem_cons.mpr ⟨lw_p43, List.forall_mem_cons.mpr ⟨lw_p44, List.forall_mem_cons.mpr ⟨lw_p45, List.forall_mem_cons.mpr ⟨lw_p46, List.forall_mem_cons.mpr ⟨lw_p47, fun _ h => absurd h List.not_mem_nil⟩⟩⟩⟩⟩⟩⟩⟩⟩⟩⟩⟩⟩⟩⟩⟩
theorem lw_p48 : lw_okq (⟨"AngleNetModel", "goWay", "(II)I"⟩, 19) := ⟨⟨by decide +kernel, by decide +kernel⟩, List.mem_of_getElem? (i := 533) (by decide +kernel), List.mem_of_getElem? (i := 736) (by decide +kernel), List.mem_of_getElem? (i := 737) (by decide +kernel)⟩
theorem lw_p49 : lw_okq (⟨"AngleNetModel", "lower", "(I)V"⟩, 19) := ⟨⟨by decide +kernel, by decide +kernel⟩, List.mem_of_getElem? (i := 533) (by decide +kernel), List.mem_of_getElem? (i := 740) (by decide +kernel), List.mem_of_getElem? (i := 741) (by decide +kernel)⟩
theorem lw_p50 : lw_okq (⟨"AngleNetModel", "sides", "(I)I"⟩, 19) := ⟨⟨by decide +kernel, by decide +kernel⟩, List.mem_of_getElem? (i := 533) (by decide +kernel), List.mem_of_getElem? (i := 748) (by decide +kernel), List.mem_of_getElem? (i := 749) (by decide +kernel)⟩
theorem lw_p51 : lw_okq (⟨"AngleNetModel", "thirdsBar", "(I)Z"⟩, 19) := ⟨⟨by decide +kernel, by decide +kernel⟩, List.mem_of_getElem? (i := 533) (by decide +kernel), List.mem_of_getElem? (i := 779) (by decide +kernel), List.mem_of_getElem? (i := 780) (by decide +kernel)⟩
theorem lw_p52 : lw_okq (⟨"AngleNetModel", "postsBar", "(II)Z"⟩, 19) := ⟨⟨by decide +kernel, by decide +kernel⟩, List.mem_of_getElem? (i := 533) (by decide +kernel), List.mem_of_getElem? (i := 783) (by decide +kernel), List.mem_of_getElem? (i := 784) (by decide +kernel)⟩
theorem lw_p53 : lw_okq (⟨"AngleNetModel", "oppositeOf", "(II)I"⟩, 19) := ⟨⟨by decide +kernel, by decide +kernel⟩, List.mem_of_getElem? (i := 533) (by decide +kernel), List.mem_of_getElem? (i := 791) (by decide +kernel), List.mem_of_getElem? (i := 792) (by decide +kernel)⟩
def lw_privs_4 : List (MethodName × Nat) := [(⟨"AngleNetModel", "goWay", "(II)I"⟩, 19), (⟨"AngleNetModel", "lower", "(I)V"⟩, 19), (⟨"AngleNetModel", "sides", "(I)I"⟩, 19), (⟨"AngleNetModel", "thirdsBar", "(I)Z"⟩, 19), (⟨"AngleNetModel", "postsBar", "(II)Z"⟩, 19), (⟨"AngleNetModel", "oppositeOf", "(II)I"⟩, 19)]
theorem lw_r4 : ∀ q ∈ lw_privs_4, lw_okq q := List.forall_mem_cons.mpr ⟨lw_p48, List.forall_mem_cons.mpr ⟨lw_p49, List.forall_mem_cons.mpr ⟨lw_p50, List.forall_mem_cons.mpr ⟨lw_p51, List.forall_mem_cons.mpr ⟨lw_p52, List.forall_mem_cons.mpr ⟨lw_p53, fun _ h => absurd h List.not_mem_nil⟩⟩⟩⟩⟩⟩
def lw_privs : List (MethodName × Nat) := lw_privs_1 ++ (lw_privs_2 ++ (lw_privs_3 ++ (lw_privs_4)))
def lw_tbl : List Cond := k2_sels lw_privs ++ tables_1
theorem lw_privs_ok : ∀ q ∈ lw_privs, lw_okq q := by
  show ∀ q ∈ lw_privs_1 ++ (lw_privs_2 ++ (lw_privs_3 ++ (lw_privs_4))), lw_okq q
  exact List.forall_mem_append.mpr ⟨lw_r1, List.forall_mem_append.mpr ⟨lw_r2, List.forall_mem_append.mpr ⟨lw_r3, lw_r4⟩⟩⟩
end
section
def RX0 : String := "AngleNet$Acts"
def TX0 : u_T := fun k => match k with
  | 0 => ("AngleNet$Acts", "cells", "[I", true)
  | 1 => ("AngleNet$Acts", "before", "[I", true)
  | 2 => ("AngleNet$Acts", "after", "[I", true)
  | 3 => ("AngleNet$Acts", "behind", "I", false)
  | _ => ("AngleNet$Acts", "ahead", "I", false)
def tyX0 : Nat → FieldType := fun k => match k with
  | 0 => .array .int
  | 1 => .array .int
  | 2 => .array .int
  | 3 => .int
  | _ => .int
abbrev wsX00 : List Cond := u_ws RX0 TX0 5
theorem nmX0 : ∀ a, a < 5 → ∀ b, b < 5 → a ≠ b → (TX0 a).2.1 ≠ (TX0 b).2.1 := by decide +kernel
theorem tyX0_ok : ∀ k, k < 5 → parseFieldDescriptor (TX0 k).2.2.1 = some (tyX0 k) := by decide +kernel
abbrev cX0_init : ByteArray := prog_2_method_1_code
def yX0_init : MethodName := ⟨RX0, "<init>", "()V"⟩
abbrev cX0_forgetAll : ByteArray := prog_2_method_2_code
def yX0_forgetAll : MethodName := ⟨RX0, "forgetAll", "()V"⟩
abbrev cX0_behind : ByteArray := prog_2_method_3_code
def yX0_behind : MethodName := ⟨RX0, "behind", "()I"⟩
abbrev cX0_ahead : ByteArray := prog_2_method_4_code
def yX0_ahead : MethodName := ⟨RX0, "ahead", "()I"⟩
abbrev cX0_begin : ByteArray := prog_2_method_5_code
def yX0_begin : MethodName := ⟨RX0, "begin", "()V"⟩
abbrev cX0_note : ByteArray := prog_2_method_6_code
def yX0_note : MethodName := ⟨RX0, "note", "(IIII)V"⟩
abbrev cX0_forward : ByteArray := prog_2_method_7_code
def yX0_forward : MethodName := ⟨RX0, "forward", "(LAngleNet$Net;)V"⟩
abbrev cX0_backward : ByteArray := prog_2_method_8_code
def yX0_backward : MethodName := ⟨RX0, "backward", "(LAngleNet$Net;)V"⟩
abbrev cX0_putAll : ByteArray := prog_2_method_9_code
def yX0_putAll : MethodName := ⟨RX0, "putAll", "(LAngleNet$Net;[I)V"⟩
abbrev cX0_dropOldest : ByteArray := prog_2_method_10_code
def yX0_dropOldest : MethodName := ⟨RX0, "dropOldest", "([I)V"⟩
def RX1 : String := "AngleNet$Bars"
def TX1 : u_T := fun k => match k with
  | 0 => ("AngleNet$Bars", "net", "LAngleNet$Net;", true)
  | 1 => ("AngleNet$Bars", "postsOf", "[I", true)
  | 2 => ("AngleNet$Bars", "postsOfSets", "[I", true)
  | 3 => ("AngleNet$Bars", "totals", "[I", true)
  | 4 => ("AngleNet$Bars", "toldPosts", "I", false)
  | 5 => ("AngleNet$Bars", "straight", "I", false)
  | _ => ("AngleNet$Bars", "least", "I", false)
def tyX1 : Nat → FieldType := fun k => match k with
  | 0 => .object "AngleNet$Net"
  | 1 => .array .int
  | 2 => .array .int
  | 3 => .array .int
  | 4 => .int
  | 5 => .int
  | _ => .int
abbrev wsX10 : List Cond := u_ws RX1 TX1 7
theorem nmX1 : ∀ a, a < 7 → ∀ b, b < 7 → a ≠ b → (TX1 a).2.1 ≠ (TX1 b).2.1 := by decide +kernel
theorem tyX1_ok : ∀ k, k < 7 → parseFieldDescriptor (TX1 k).2.2.1 = some (tyX1 k) := by decide +kernel
abbrev cX1_init : ByteArray := prog_3_method_1_code
def yX1_init : MethodName := ⟨RX1, "<init>", "(LAngleNet$Net;)V"⟩
abbrev cX1_fewest : ByteArray := prog_3_method_2_code
def yX1_fewest : MethodName := ⟨RX1, "fewest", "(III)I"⟩
abbrev cX1_lookAtPosts : ByteArray := prog_3_method_3_code
def yX1_lookAtPosts : MethodName := ⟨RX1, "lookAtPosts", "(I)V"⟩
abbrev cX1_lookAtThirds : ByteArray := prog_3_method_4_code
def yX1_lookAtThirds : MethodName := ⟨RX1, "lookAtThirds", "()V"⟩
abbrev cX1_thirdsAtToldPosts : ByteArray := prog_3_method_5_code
def yX1_thirdsAtToldPosts : MethodName := ⟨RX1, "thirdsAtToldPosts", "()I"⟩
abbrev cX1_isBar : ByteArray := prog_3_method_6_code
def yX1_isBar : MethodName := ⟨RX1, "isBar", "(II)Z"⟩
abbrev cX1_roomFor : ByteArray := prog_3_method_7_code
def yX1_roomFor : MethodName := ⟨RX1, "roomFor", "(I)I"⟩
abbrev cX1_mostOf : ByteArray := prog_3_method_8_code
def yX1_mostOf : MethodName := ⟨RX1, "mostOf", "(I)I"⟩
abbrev cX1_leastOf : ByteArray := prog_3_method_9_code
def yX1_leastOf : MethodName := ⟨RX1, "leastOf", "(I)I"⟩
def RX2 : String := "AngleNet$Giver"
def TX2 : u_T := fun k => match k with
  | 0 => ("AngleNet$Giver", "net", "LAngleNet$Net;", true)
  | 1 => ("AngleNet$Giver", "row", "[I", true)
  | 2 => ("AngleNet$Giver", "places", "[I", true)
  | 3 => ("AngleNet$Giver", "over", "[I", true)
  | 4 => ("AngleNet$Giver", "via", "[I", true)
  | 5 => ("AngleNet$Giver", "queue", "[I", true)
  | 6 => ("AngleNet$Giver", "corners", "I", false)
  | 7 => ("AngleNet$Giver", "lowest", "I", false)
  | 8 => ("AngleNet$Giver", "firstOpen", "I", false)
  | 9 => ("AngleNet$Giver", "rowIsFresh", "Z", false)
  | _ => ("AngleNet$Giver", "rowIsThere", "Z", false)
def tyX2 : Nat → FieldType := fun k => match k with
  | 0 => .object "AngleNet$Net"
  | 1 => .array .int
  | 2 => .array .int
  | 3 => .array .int
  | 4 => .array .int
  | 5 => .array .int
  | 6 => .int
  | 7 => .int
  | 8 => .int
  | 9 => .boolean
  | _ => .boolean
abbrev wsX20 : List Cond := u_ws RX2 TX2 11
theorem nmX2 : ∀ a, a < 11 → ∀ b, b < 11 → a ≠ b → (TX2 a).2.1 ≠ (TX2 b).2.1 := by decide +kernel
theorem tyX2_ok : ∀ k, k < 11 → parseFieldDescriptor (TX2 k).2.2.1 = some (tyX2 k) := by decide +kernel
abbrev cX2_init : ByteArray := prog_4_method_1_code
def yX2_init : MethodName := ⟨RX2, "<init>", "(LAngleNet$Net;)V"⟩
abbrev cX2_forgetRow : ByteArray := prog_4_method_2_code
def yX2_forgetRow : MethodName := ⟨RX2, "forgetRow", "()V"⟩
abbrev cX2_given : ByteArray := prog_4_method_3_code
def yX2_given : MethodName := ⟨RX2, "given", "(I)I"⟩
abbrev cX2_givenAt : ByteArray := prog_4_method_4_code
def yX2_givenAt : MethodName := ⟨RX2, "givenAt", "(I)I"⟩
abbrev cX2_findRow : ByteArray := prog_4_method_5_code
def yX2_findRow : MethodName := ⟨RX2, "findRow", "(II)Z"⟩
abbrev cX2_findAny : ByteArray := prog_4_method_6_code
def yX2_findAny : MethodName := ⟨RX2, "findAny", "(II)Z"⟩
abbrev cX2_begin : ByteArray := prog_4_method_7_code
def yX2_begin : MethodName := ⟨RX2, "begin", "(II)V"⟩
abbrev cX2_weigh : ByteArray := prog_4_method_8_code
def yX2_weigh : MethodName := ⟨RX2, "weigh", "(I)V"⟩
abbrev cX2_level : ByteArray := prog_4_method_9_code
def yX2_level : MethodName := ⟨RX2, "level", "(II)V"⟩
abbrev cX2_sink : ByteArray := prog_4_method_10_code
def yX2_sink : MethodName := ⟨RX2, "sink", "(I)V"⟩
abbrev cX2_push : ByteArray := prog_4_method_11_code
def yX2_push : MethodName := ⟨RX2, "push", "(III)I"⟩
abbrev cX2_nodeBefore : ByteArray := prog_4_method_12_code
def yX2_nodeBefore : MethodName := ⟨RX2, "nodeBefore", "(I)I"⟩
abbrev cX2_reaches : ByteArray := prog_4_method_13_code
def yX2_reaches : MethodName := ⟨RX2, "reaches", "(II)Z"⟩
abbrev cX2_seeFromThird : ByteArray := prog_4_method_14_code
def yX2_seeFromThird : MethodName := ⟨RX2, "seeFromThird", "(II)I"⟩
abbrev cX2_seeFromPost : ByteArray := prog_4_method_15_code
def yX2_seeFromPost : MethodName := ⟨RX2, "seeFromPost", "(II)I"⟩
def RX3 : String := "AngleNet$Net"
def TX3 : u_T := fun k => match k with
  | 0 => ("AngleNet$Net", "corners", "[I", true)
  | 1 => ("AngleNet$Net", "sums", "[I", true)
  | 2 => ("AngleNet$Net", "arrows", "[I", true)
  | 3 => ("AngleNet$Net", "posts", "I", false)
  | _ => ("AngleNet$Net", "thirds", "I", false)
def tyX3 : Nat → FieldType := fun k => match k with
  | 0 => .array .int
  | 1 => .array .int
  | 2 => .array .int
  | 3 => .int
  | _ => .int
abbrev wsX30 : List Cond := u_ws RX3 TX3 5
theorem nmX3 : ∀ a, a < 5 → ∀ b, b < 5 → a ≠ b → (TX3 a).2.1 ≠ (TX3 b).2.1 := by decide +kernel
theorem tyX3_ok : ∀ k, k < 5 → parseFieldDescriptor (TX3 k).2.2.1 = some (tyX3 k) := by decide +kernel
abbrev cX3_init : ByteArray := prog_5_method_1_code
def yX3_init : MethodName := ⟨RX3, "<init>", "()V"⟩
abbrev cX3_beginAnew : ByteArray := prog_5_method_2_code
def yX3_beginAnew : MethodName := ⟨RX3, "beginAnew", "(I)V"⟩
abbrev cX3_pack : ByteArray := prog_5_method_3_code
def yX3_pack : MethodName := ⟨RX3, "pack", "(III)I"⟩
abbrev cX3_packed : ByteArray := prog_5_method_4_code
def yX3_packed : MethodName := ⟨RX3, "packed", "(I)I"⟩
abbrev cX3_put : ByteArray := prog_5_method_5_code
def yX3_put : MethodName := ⟨RX3, "put", "(II)V"⟩
abbrev cX3_drawArrows : ByteArray := prog_5_method_6_code
def yX3_drawArrows : MethodName := ⟨RX3, "drawArrows", "()V"⟩
abbrev cX3_postCount : ByteArray := prog_5_method_7_code
def yX3_postCount : MethodName := ⟨RX3, "postCount", "()I"⟩
abbrev cX3_thirdCount : ByteArray := prog_5_method_8_code
def yX3_thirdCount : MethodName := ⟨RX3, "thirdCount", "()I"⟩
abbrev cX3_cornerCount : ByteArray := prog_5_method_9_code
def yX3_cornerCount : MethodName := ⟨RX3, "cornerCount", "()I"⟩
abbrev cX3_hasPost : ByteArray := prog_5_method_10_code
def yX3_hasPost : MethodName := ⟨RX3, "hasPost", "(I)Z"⟩
abbrev cX3_hasCorner : ByteArray := prog_5_method_11_code
def yX3_hasCorner : MethodName := ⟨RX3, "hasCorner", "(I)Z"⟩
abbrev cX3_areUnlike : ByteArray := prog_5_method_12_code
def yX3_areUnlike : MethodName := ⟨RX3, "areUnlike", "(II)Z"⟩
abbrev cX3_postOf : ByteArray := prog_5_method_13_code
def yX3_postOf : MethodName := ⟨RX3, "postOf", "(I)I"⟩
abbrev cX3_sumOf : ByteArray := prog_5_method_14_code
def yX3_sumOf : MethodName := ⟨RX3, "sumOf", "(I)I"⟩
abbrev cX3_isTold : ByteArray := prog_5_method_15_code
def yX3_isTold : MethodName := ⟨RX3, "isTold", "(I)Z"⟩
abbrev cX3_thirdWith : ByteArray := prog_5_method_16_code
def yX3_thirdWith : MethodName := ⟨RX3, "thirdWith", "(II)I"⟩
abbrev cX3_hasArrow : ByteArray := prog_5_method_17_code
def yX3_hasArrow : MethodName := ⟨RX3, "hasArrow", "(II)Z"⟩
abbrev cX3_thirdsAtSide : ByteArray := prog_5_method_18_code
def yX3_thirdsAtSide : MethodName := ⟨RX3, "thirdsAtSide", "(II)I"⟩
abbrev cX3_isSide : ByteArray := prog_5_method_19_code
def yX3_isSide : MethodName := ⟨RX3, "isSide", "(II)Z"⟩
abbrev cX3_cornerOpposite : ByteArray := prog_5_method_20_code
def yX3_cornerOpposite : MethodName := ⟨RX3, "cornerOpposite", "(III)I"⟩
abbrev cX3_cornersAt : ByteArray := prog_5_method_21_code
def yX3_cornersAt : MethodName := ⟨RX3, "cornersAt", "(I)I"⟩
abbrev cX3_sidesAt : ByteArray := prog_5_method_22_code
def yX3_sidesAt : MethodName := ⟨RX3, "sidesAt", "(II)I"⟩
abbrev cX3_sidesWith : ByteArray := prog_5_method_23_code
def yX3_sidesWith : MethodName := ⟨RX3, "sidesWith", "(I)I"⟩
abbrev cX3_isFreeOfRim : ByteArray := prog_5_method_24_code
def yX3_isFreeOfRim : MethodName := ⟨RX3, "isFreeOfRim", "(I)Z"⟩
abbrev cX3_isRound : ByteArray := prog_5_method_25_code
def yX3_isRound : MethodName := ⟨RX3, "isRound", "(I)Z"⟩
abbrev cX3_character : ByteArray := prog_5_method_26_code
def yX3_character : MethodName := ⟨RX3, "character", "()I"⟩
abbrev cX3_pieces : ByteArray := prog_5_method_27_code
def yX3_pieces : MethodName := ⟨RX3, "pieces", "()I"⟩
abbrev cX3_allSums : ByteArray := prog_5_method_28_code
def yX3_allSums : MethodName := ⟨RX3, "allSums", "()I"⟩
abbrev cX3_thirdsAt : ByteArray := prog_5_method_29_code
def yX3_thirdsAt : MethodName := ⟨RX3, "thirdsAt", "(I)I"⟩
abbrev cX3_hangingWith : ByteArray := prog_5_method_30_code
def yX3_hangingWith : MethodName := ⟨RX3, "hangingWith", "(II)I"⟩
abbrev cX3_widened : ByteArray := prog_5_method_31_code
def yX3_widened : MethodName := ⟨RX3, "widened", "(II)I"⟩
abbrev cX3_bitOf : ByteArray := prog_5_method_32_code
def yX3_bitOf : MethodName := ⟨RX3, "bitOf", "(II)I"⟩
def RX4 : String := "AngleNet"
def TX4 : u_T := fun k => match k with
  | 0 => ("AngleNet", "net", "LAngleNet$Net;", true)
  | 1 => ("AngleNet", "acts", "LAngleNet$Acts;", true)
  | 2 => ("AngleNet", "giver", "LAngleNet$Giver;", true)
  | 3 => ("AngleNet", "bars", "LAngleNet$Bars;", true)
  | 4 => ("AngleNet", "straightIs", "I", false)
  | _ => ("AngleNet", "leastIs", "I", false)
def tyX4 : Nat → FieldType := fun k => match k with
  | 0 => .object "AngleNet$Net"
  | 1 => .object "AngleNet$Acts"
  | 2 => .object "AngleNet$Giver"
  | 3 => .object "AngleNet$Bars"
  | 4 => .int
  | _ => .int
abbrev wsX40 : List Cond := u_ws RX4 TX4 6
theorem nmX4 : ∀ a, a < 6 → ∀ b, b < 6 → a ≠ b → (TX4 a).2.1 ≠ (TX4 b).2.1 := by decide +kernel
theorem tyX4_ok : ∀ k, k < 6 → parseFieldDescriptor (TX4 k).2.2.1 = some (tyX4 k) := by decide +kernel
abbrev cX4_init : ByteArray := prog_1_method_1_code
def yX4_init : MethodName := ⟨RX4, "<init>", "()V"⟩
abbrev cX4_posts : ByteArray := prog_1_method_2_code
def yX4_posts : MethodName := ⟨RX4, "posts", "(I)I"⟩
abbrev cX4_third : ByteArray := prog_1_method_3_code
def yX4_third : MethodName := ⟨RX4, "third", "(III)I"⟩
abbrev cX4_at : ByteArray := prog_1_method_4_code
def yX4_at : MethodName := ⟨RX4, "at", "(I)I"⟩
abbrev cX4_side : ByteArray := prog_1_method_5_code
def yX4_side : MethodName := ⟨RX4, "side", "(II)I"⟩
abbrev cX4_arrow : ByteArray := prog_1_method_6_code
def yX4_arrow : MethodName := ⟨RX4, "arrow", "(II)I"⟩
abbrev cX4_turn : ByteArray := prog_1_method_7_code
def yX4_turn : MethodName := ⟨RX4, "turn", "(II)I"⟩
abbrev cX4_about : ByteArray := prog_1_method_8_code
def yX4_about : MethodName := ⟨RX4, "about", "(II)I"⟩
abbrev cX4_told : ByteArray := prog_1_method_9_code
def yX4_told : MethodName := ⟨RX4, "told", "(I)I"⟩
abbrev cX4_straight : ByteArray := prog_1_method_10_code
def yX4_straight : MethodName := ⟨RX4, "straight", "(I)I"⟩
abbrev cX4_least : ByteArray := prog_1_method_11_code
def yX4_least : MethodName := ⟨RX4, "least", "(I)I"⟩
abbrev cX4_tell : ByteArray := prog_1_method_12_code
def yX4_tell : MethodName := ⟨RX4, "tell", "(II)I"⟩
abbrev cX4_can : ByteArray := prog_1_method_13_code
def yX4_can : MethodName := ⟨RX4, "can", "()I"⟩
abbrev cX4_angle : ByteArray := prog_1_method_14_code
def yX4_angle : MethodName := ⟨RX4, "angle", "(I)I"⟩
abbrev cX4_best : ByteArray := prog_1_method_15_code
def yX4_best : MethodName := ⟨RX4, "best", "()I"⟩
abbrev cX4_bar : ByteArray := prog_1_method_16_code
def yX4_bar : MethodName := ⟨RX4, "bar", "(I)I"⟩
abbrev cX4_opposite : ByteArray := prog_1_method_17_code
def yX4_opposite : MethodName := ⟨RX4, "opposite", "(II)I"⟩
abbrev cX4_fit : ByteArray := prog_1_method_18_code
def yX4_fit : MethodName := ⟨RX4, "fit", "()I"⟩
abbrev cX4_undo : ByteArray := prog_1_method_19_code
def yX4_undo : MethodName := ⟨RX4, "undo", "()I"⟩
abbrev cX4_redo : ByteArray := prog_1_method_20_code
def yX4_redo : MethodName := ⟨RX4, "redo", "()I"⟩
abbrev cX4_goForward : ByteArray := prog_1_method_21_code
def yX4_goForward : MethodName := ⟨RX4, "goForward", "()V"⟩
abbrev cX4_sumOrNone : ByteArray := prog_1_method_22_code
def yX4_sumOrNone : MethodName := ⟨RX4, "sumOrNone", "(I)I"⟩
abbrev cX4_givenOpposite : ByteArray := prog_1_method_23_code
def yX4_givenOpposite : MethodName := ⟨RX4, "givenOpposite", "(II)I"⟩
def RX5 : String := "AngleNetModel"
def TX5 : u_T := fun k => match k with
  | 0 => ("AngleNetModel", "posts", "I", false)
  | 1 => ("AngleNetModel", "thirds", "I", false)
  | 2 => ("AngleNetModel", "corner", "[I", true)
  | 3 => ("AngleNetModel", "straight", "I", false)
  | 4 => ("AngleNetModel", "least", "I", false)
  | 5 => ("AngleNetModel", "sum", "[I", true)
  | 6 => ("AngleNetModel", "isLaid", "Z", false)
  | 7 => ("AngleNetModel", "isGiven", "Z", false)
  | 8 => ("AngleNetModel", "beyond", "[I", true)
  | 9 => ("AngleNetModel", "acts", "I", false)
  | 10 => ("AngleNetModel", "done", "I", false)
  | 11 => ("AngleNetModel", "act", "[I", true)
  | 12 => ("AngleNetModel", "mark", "[I", true)
  | 13 => ("AngleNetModel", "spare", "[I", true)
  | 14 => ("AngleNetModel", "lack", "[I", true)
  | 15 => ("AngleNetModel", "before", "[I", true)
  | 16 => ("AngleNetModel", "via", "[I", true)
  | 17 => ("AngleNetModel", "queue", "[I", true)
  | _ => ("AngleNetModel", "queued", "I", false)
def tyX5 : Nat → FieldType := fun k => match k with
  | 0 => .int
  | 1 => .int
  | 2 => .array .int
  | 3 => .int
  | 4 => .int
  | 5 => .array .int
  | 6 => .boolean
  | 7 => .boolean
  | 8 => .array .int
  | 9 => .int
  | 10 => .int
  | 11 => .array .int
  | 12 => .array .int
  | 13 => .array .int
  | 14 => .array .int
  | 15 => .array .int
  | 16 => .array .int
  | 17 => .array .int
  | _ => .int
abbrev wsX50 : List Cond := u_ws RX5 TX5 19
theorem nmX5 : ∀ a, a < 19 → ∀ b, b < 19 → a ≠ b → (TX5 a).2.1 ≠ (TX5 b).2.1 := by decide +kernel
theorem tyX5_ok : ∀ k, k < 19 → parseFieldDescriptor (TX5 k).2.2.1 = some (tyX5 k) := by decide +kernel
abbrev cX5_init : ByteArray := prog_7_method_1_code
def yX5_init : MethodName := ⟨RX5, "<init>", "()V"⟩
abbrev cX5_in : ByteArray := prog_7_method_2_code
def yX5_in : MethodName := ⟨RX5, "in", "(III)Z"⟩
abbrev cX5_begin : ByteArray := prog_7_method_3_code
def yX5_begin : MethodName := ⟨RX5, "begin", "()V"⟩
abbrev cX5_isPost : ByteArray := prog_7_method_4_code
def yX5_isPost : MethodName := ⟨RX5, "isPost", "(I)Z"⟩
abbrev cX5_arePair : ByteArray := prog_7_method_5_code
def yX5_arePair : MethodName := ⟨RX5, "arePair", "(II)Z"⟩
abbrev cX5_posts : ByteArray := prog_7_method_6_code
def yX5_posts : MethodName := ⟨RX5, "posts", "(I)I"⟩
abbrev cX5_arrowOf : ByteArray := prog_7_method_7_code
def yX5_arrowOf : MethodName := ⟨RX5, "arrowOf", "(II)I"⟩
abbrev cX5_sideOf : ByteArray := prog_7_method_8_code
def yX5_sideOf : MethodName := ⟨RX5, "sideOf", "(II)I"⟩
abbrev cX5_put : ByteArray := prog_7_method_9_code
def yX5_put : MethodName := ⟨RX5, "put", "(IIII)V"⟩
abbrev cX5_write : ByteArray := prog_7_method_10_code
def yX5_write : MethodName := ⟨RX5, "write", "(III)V"⟩
abbrev cX5_keepThirds : ByteArray := prog_7_method_11_code
def yX5_keepThirds : MethodName := ⟨RX5, "keepThirds", "(III)V"⟩
abbrev cX5_takeThirds : ByteArray := prog_7_method_12_code
def yX5_takeThirds : MethodName := ⟨RX5, "takeThirds", "(III)V"⟩
abbrev cX5_third : ByteArray := prog_7_method_13_code
def yX5_third : MethodName := ⟨RX5, "third", "(III)I"⟩
abbrev cX5_at : ByteArray := prog_7_method_14_code
def yX5_at : MethodName := ⟨RX5, "at", "(I)I"⟩
abbrev cX5_side : ByteArray := prog_7_method_15_code
def yX5_side : MethodName := ⟨RX5, "side", "(II)I"⟩
abbrev cX5_arrow : ByteArray := prog_7_method_16_code
def yX5_arrow : MethodName := ⟨RX5, "arrow", "(II)I"⟩
abbrev cX5_oppositeCorner : ByteArray := prog_7_method_17_code
def yX5_oppositeCorner : MethodName := ⟨RX5, "oppositeCorner", "(III)I"⟩
abbrev cX5_turn : ByteArray := prog_7_method_18_code
def yX5_turn : MethodName := ⟨RX5, "turn", "(II)I"⟩
abbrev cX5_tell : ByteArray := prog_7_method_19_code
def yX5_tell : MethodName := ⟨RX5, "tell", "(II)I"⟩
abbrev cX5_undo : ByteArray := prog_7_method_20_code
def yX5_undo : MethodName := ⟨RX5, "undo", "()I"⟩
abbrev cX5_redo : ByteArray := prog_7_method_21_code
def yX5_redo : MethodName := ⟨RX5, "redo", "()I"⟩
abbrev cX5_cornersAt : ByteArray := prog_7_method_22_code
def yX5_cornersAt : MethodName := ⟨RX5, "cornersAt", "(I)I"⟩
abbrev cX5_sidesAt : ByteArray := prog_7_method_23_code
def yX5_sidesAt : MethodName := ⟨RX5, "sidesAt", "(III)I"⟩
abbrev cX5_hasPost : ByteArray := prog_7_method_24_code
def yX5_hasPost : MethodName := ⟨RX5, "hasPost", "(II)Z"⟩
abbrev cX5_hang : ByteArray := prog_7_method_25_code
def yX5_hang : MethodName := ⟨RX5, "hang", "(III)Z"⟩
abbrev cX5_pieces : ByteArray := prog_7_method_26_code
def yX5_pieces : MethodName := ⟨RX5, "pieces", "(I)I"⟩
abbrev cX5_sumOfRow : ByteArray := prog_7_method_27_code
def yX5_sumOfRow : MethodName := ⟨RX5, "sumOfRow", "(I)I"⟩
abbrev cX5_about : ByteArray := prog_7_method_28_code
def yX5_about : MethodName := ⟨RX5, "about", "(II)I"⟩
abbrev cX5_sides : ByteArray := prog_7_method_29_code
def yX5_sides : MethodName := ⟨RX5, "sides", "(I)I"⟩
abbrev cX5_told : ByteArray := prog_7_method_30_code
def yX5_told : MethodName := ⟨RX5, "told", "(I)I"⟩
abbrev cX5_straight : ByteArray := prog_7_method_31_code
def yX5_straight : MethodName := ⟨RX5, "straight", "(I)I"⟩
abbrev cX5_least : ByteArray := prog_7_method_32_code
def yX5_least : MethodName := ⟨RX5, "least", "(I)I"⟩
abbrev cX5_clearWays : ByteArray := prog_7_method_33_code
def yX5_clearWays : MethodName := ⟨RX5, "clearWays", "()V"⟩
abbrev cX5_come : ByteArray := prog_7_method_34_code
def yX5_come : MethodName := ⟨RX5, "come", "(III)V"⟩
abbrev cX5_spread : ByteArray := prog_7_method_35_code
def yX5_spread : MethodName := ⟨RX5, "spread", "(IZ)V"⟩
abbrev cX5_wayRoom : ByteArray := prog_7_method_36_code
def yX5_wayRoom : MethodName := ⟨RX5, "wayRoom", "(II)I"⟩
abbrev cX5_goWay : ByteArray := prog_7_method_37_code
def yX5_goWay : MethodName := ⟨RX5, "goWay", "(II)I"⟩
abbrev cX5_wanting : ByteArray := prog_7_method_38_code
def yX5_wanting : MethodName := ⟨RX5, "wanting", "(Z)I"⟩
abbrev cX5_fill : ByteArray := prog_7_method_39_code
def yX5_fill : MethodName := ⟨RX5, "fill", "(Z)V"⟩
abbrev cX5_canWith : ByteArray := prog_7_method_40_code
def yX5_canWith : MethodName := ⟨RX5, "canWith", "(I)Z"⟩
abbrev cX5_lower : ByteArray := prog_7_method_41_code
def yX5_lower : MethodName := ⟨RX5, "lower", "(I)V"⟩
abbrev cX5_hasRow : ByteArray := prog_7_method_42_code
def yX5_hasRow : MethodName := ⟨RX5, "hasRow", "()Z"⟩
abbrev cX5_can : ByteArray := prog_7_method_43_code
def yX5_can : MethodName := ⟨RX5, "can", "()I"⟩
abbrev cX5_angle : ByteArray := prog_7_method_44_code
def yX5_angle : MethodName := ⟨RX5, "angle", "(I)I"⟩
abbrev cX5_best : ByteArray := prog_7_method_45_code
def yX5_best : MethodName := ⟨RX5, "best", "()I"⟩
abbrev cX5_bits : ByteArray := prog_7_method_46_code
def yX5_bits : MethodName := ⟨RX5, "bits", "(I)I"⟩
abbrev cX5_thirdsBar : ByteArray := prog_7_method_47_code
def yX5_thirdsBar : MethodName := ⟨RX5, "thirdsBar", "(I)Z"⟩
abbrev cX5_postsBar : ByteArray := prog_7_method_48_code
def yX5_postsBar : MethodName := ⟨RX5, "postsBar", "(II)Z"⟩
abbrev cX5_bar : ByteArray := prog_7_method_49_code
def yX5_bar : MethodName := ⟨RX5, "bar", "(I)I"⟩
abbrev cX5_oppositeOf : ByteArray := prog_7_method_50_code
def yX5_oppositeOf : MethodName := ⟨RX5, "oppositeOf", "(II)I"⟩
abbrev cX5_opposite : ByteArray := prog_7_method_51_code
def yX5_opposite : MethodName := ⟨RX5, "opposite", "(II)I"⟩
abbrev cX5_fit : ByteArray := prog_7_method_52_code
def yX5_fit : MethodName := ⟨RX5, "fit", "()I"⟩
def RJ6 : String := "java/lang/Integer"
def TJ6 : u_T := fun k => match k with
  | _ => ("", "", "", false)
def tyJ6 : Nat → FieldType := fun k => match k with
  | _ => .int
abbrev wsJ60 : List Cond := u_ws RJ6 TJ6 0
theorem nmJ6 : ∀ a, a < 0 → ∀ b, b < 0 → a ≠ b → (TJ6 a).2.1 ≠ (TJ6 b).2.1 := by decide +kernel
theorem tyJ6_ok : ∀ k, k < 0 → parseFieldDescriptor (TJ6 k).2.2.1 = some (tyJ6 k) := by decide +kernel
abbrev cJ6_bitCount_0f7a4 : ByteArray := prog_8_method_49_code
def yJ6_bitCount_0f7a4 : MethodName := ⟨RJ6, "bitCount", "(I)I"⟩
def RJ9 : String := "java/lang/Math"
def TJ9 : u_T := fun k => match k with
  | _ => ("", "", "", false)
def tyJ9 : Nat → FieldType := fun k => match k with
  | _ => .int
abbrev wsJ90 : List Cond := u_ws RJ9 TJ9 0
theorem nmJ9 : ∀ a, a < 0 → ∀ b, b < 0 → a ≠ b → (TJ9 a).2.1 ≠ (TJ9 b).2.1 := by decide +kernel
theorem tyJ9_ok : ∀ k, k < 0 → parseFieldDescriptor (TJ9 k).2.2.1 = some (tyJ9 k) := by decide +kernel
abbrev cJ9_max_7cf53 : ByteArray := prog_9_method_65_code
def yJ9_max_7cf53 : MethodName := ⟨RJ9, "max", "(II)I"⟩
abbrev cJ9_min_7cf53 : ByteArray := prog_9_method_69_code
def yJ9_min_7cf53 : MethodName := ⟨RJ9, "min", "(II)I"⟩
def RJ10 : String := "java/lang/System"
def TJ10 : u_T := fun k => match k with
  | _ => ("", "", "", false)
def tyJ10 : Nat → FieldType := fun k => match k with
  | _ => .int
abbrev wsJ100 : List Cond := u_ws RJ10 TJ10 0
theorem nmJ10 : ∀ a, a < 0 → ∀ b, b < 0 → a ≠ b → (TJ10 a).2.1 ≠ (TJ10 b).2.1 := by decide +kernel
theorem tyJ10_ok : ∀ k, k < 0 → parseFieldDescriptor (TJ10 k).2.2.1 = some (tyJ10 k) := by decide +kernel
def RJ7 : String := "java/util/Arrays"
def TJ7 : u_T := fun k => match k with
  | _ => ("", "", "", false)
def tyJ7 : Nat → FieldType := fun k => match k with
  | _ => .int
abbrev wsJ70 : List Cond := u_ws RJ7 TJ7 0
theorem nmJ7 : ∀ a, a < 0 → ∀ b, b < 0 → a ≠ b → (TJ7 a).2.1 ≠ (TJ7 b).2.1 := by decide +kernel
theorem tyJ7_ok : ∀ k, k < 0 → parseFieldDescriptor (TJ7 k).2.2.1 = some (tyJ7 k) := by decide +kernel
abbrev cJ7_fill_53178 : ByteArray := prog_11_method_103_code
def yJ7_fill_53178 : MethodName := ⟨RJ7, "fill", "([II)V"⟩
def RL : String := "AngleNetLaw"
abbrev cL_law : ByteArray := code
def yL_law : MethodName := ⟨RL, "law", "([I)Z"⟩
theorem inJ6 : ∀ w ∈ wsJ60, w ∈ lw_tbl := by decide +kernel
theorem inJ9 : ∀ w ∈ wsJ90, w ∈ lw_tbl := by decide +kernel
theorem inJ10 : ∀ w ∈ wsJ100, w ∈ lw_tbl := by decide +kernel
theorem inJ7 : ∀ w ∈ wsJ70, w ∈ lw_tbl := by decide +kernel
abbrev vwCl : List vw_C := [(RX0, TX0, 5), (RX1, TX1, 7), (RX2, TX2, 11), (RX3, TX3, 5), (RX4, TX4, 6), (RX5, TX5, 19)]
theorem inX0 : ∀ w ∈ wsX00, w ∈ lw_tbl := by decide +kernel
theorem inX1 : ∀ w ∈ wsX10, w ∈ lw_tbl := by decide +kernel
theorem inX2 : ∀ w ∈ wsX20, w ∈ lw_tbl := by decide +kernel
theorem inX3 : ∀ w ∈ wsX30, w ∈ lw_tbl := by decide +kernel
theorem inX4 : ∀ w ∈ wsX40, w ∈ lw_tbl := by decide +kernel
theorem inX5 : ∀ w ∈ wsX50, w ∈ lw_tbl := by decide +kernel
end
section
theorem dX0_init_0 : decode cX0_init 0 = .ok (.aload_n 0, 1) := by decide +kernel
theorem dX0_init_1 : decode cX0_init 1 = .ok (.invokespecial 3, 3) := by decide +kernel
theorem dX0_init_4 : decode cX0_init 4 = .ok (.aload_n 0, 1) := by decide +kernel
theorem dX0_init_5 : decode cX0_init 5 = .ok (.bipush 120, 2) := by decide +kernel
theorem dX0_init_7 : decode cX0_init 7 = .ok (.newarray .int, 2) := by decide +kernel
theorem dX0_init_9 : decode cX0_init 9 = .ok (.putfield 11, 3) := by decide +kernel
theorem dX0_init_12 : decode cX0_init 12 = .ok (.aload_n 0, 1) := by decide +kernel
theorem dX0_init_13 : decode cX0_init 13 = .ok (.bipush 120, 2) := by decide +kernel
theorem dX0_init_15 : decode cX0_init 15 = .ok (.newarray .int, 2) := by decide +kernel
theorem dX0_init_17 : decode cX0_init 17 = .ok (.putfield 15, 3) := by decide +kernel
theorem dX0_init_20 : decode cX0_init 20 = .ok (.aload_n 0, 1) := by decide +kernel
theorem dX0_init_21 : decode cX0_init 21 = .ok (.bipush 120, 2) := by decide +kernel
theorem dX0_init_23 : decode cX0_init 23 = .ok (.newarray .int, 2) := by decide +kernel
theorem dX0_init_25 : decode cX0_init 25 = .ok (.putfield 18, 3) := by decide +kernel
theorem dX0_init_28 : decode cX0_init 28 = .ok (.return_, 1) := by decide +kernel
theorem dX0_forgetAll_0 : decode cX0_forgetAll 0 = .ok (.aload_n 0, 1) := by decide +kernel
theorem dX0_forgetAll_1 : decode cX0_forgetAll 1 = .ok (.iconst 0, 1) := by decide +kernel
theorem dX0_forgetAll_2 : decode cX0_forgetAll 2 = .ok (.putfield 21, 3) := by decide +kernel
theorem dX0_forgetAll_5 : decode cX0_forgetAll 5 = .ok (.aload_n 0, 1) := by decide +kernel
theorem dX0_forgetAll_6 : decode cX0_forgetAll 6 = .ok (.iconst 0, 1) := by decide +kernel
theorem dX0_forgetAll_7 : decode cX0_forgetAll 7 = .ok (.putfield 25, 3) := by decide +kernel
theorem dX0_forgetAll_10 : decode cX0_forgetAll 10 = .ok (.return_, 1) := by decide +kernel
theorem dX0_behind_0 : decode cX0_behind 0 = .ok (.aload_n 0, 1) := by decide +kernel
theorem dX0_behind_1 : decode cX0_behind 1 = .ok (.getfield 21, 3) := by decide +kernel
theorem dX0_behind_4 : decode cX0_behind 4 = .ok (.ireturn, 1) := by decide +kernel
theorem dX0_ahead_0 : decode cX0_ahead 0 = .ok (.aload_n 0, 1) := by decide +kernel
theorem dX0_ahead_1 : decode cX0_ahead 1 = .ok (.getfield 25, 3) := by decide +kernel
theorem dX0_ahead_4 : decode cX0_ahead 4 = .ok (.ireturn, 1) := by decide +kernel
theorem dX0_begin_0 : decode cX0_begin 0 = .ok (.aload_n 0, 1) := by decide +kernel
theorem dX0_begin_1 : decode cX0_begin 1 = .ok (.getfield 21, 3) := by decide +kernel
theorem dX0_begin_4 : decode cX0_begin 4 = .ok (.bipush 60, 2) := by decide +kernel
theorem dX0_begin_6 : decode cX0_begin 6 = .ok (.if_icmp .lt 30, 3) := by decide +kernel
theorem dX0_begin_9 : decode cX0_begin 9 = .ok (.aload_n 0, 1) := by decide +kernel
theorem dX0_begin_10 : decode cX0_begin 10 = .ok (.getfield 11, 3) := by decide +kernel
theorem dX0_begin_13 : decode cX0_begin 13 = .ok (.invokestatic 28, 3) := by decide +kernel
theorem dX0_begin_16 : decode cX0_begin 16 = .ok (.aload_n 0, 1) := by decide +kernel
theorem dX0_begin_17 : decode cX0_begin 17 = .ok (.getfield 15, 3) := by decide +kernel
theorem dX0_begin_20 : decode cX0_begin 20 = .ok (.invokestatic 28, 3) := by decide +kernel
theorem dX0_begin_23 : decode cX0_begin 23 = .ok (.aload_n 0, 1) := by decide +kernel
theorem dX0_begin_24 : decode cX0_begin 24 = .ok (.getfield 18, 3) := by decide +kernel
theorem dX0_begin_27 : decode cX0_begin 27 = .ok (.invokestatic 28, 3) := by decide +kernel
theorem dX0_begin_30 : decode cX0_begin 30 = .ok (.aload_n 0, 1) := by decide +kernel
theorem dX0_begin_31 : decode cX0_begin 31 = .ok (.bipush 59, 2) := by decide +kernel
theorem dX0_begin_33 : decode cX0_begin 33 = .ok (.putfield 21, 3) := by decide +kernel
theorem dX0_begin_36 : decode cX0_begin 36 = .ok (.iconst 0, 1) := by decide +kernel
theorem dX0_begin_37 : decode cX0_begin 37 = .ok (.istore_n 1, 1) := by decide +kernel
theorem dX0_begin_38 : decode cX0_begin 38 = .ok (.iload_n 1, 1) := by decide +kernel
theorem dX0_begin_39 : decode cX0_begin 39 = .ok (.iconst 2, 1) := by decide +kernel
theorem dX0_begin_40 : decode cX0_begin 40 = .ok (.if_icmp .ge 17, 3) := by decide +kernel
theorem dX0_begin_43 : decode cX0_begin 43 = .ok (.aload_n 0, 1) := by decide +kernel
theorem dX0_begin_44 : decode cX0_begin 44 = .ok (.iload_n 1, 1) := by decide +kernel
theorem dX0_begin_45 : decode cX0_begin 45 = .ok (.iconst (-1), 1) := by decide +kernel
theorem dX0_begin_46 : decode cX0_begin 46 = .ok (.iconst 0, 1) := by decide +kernel
theorem dX0_begin_47 : decode cX0_begin 47 = .ok (.iconst 0, 1) := by decide +kernel
theorem dX0_begin_48 : decode cX0_begin 48 = .ok (.invokevirtual 32, 3) := by decide +kernel
theorem dX0_begin_51 : decode cX0_begin 51 = .ok (.iinc 1 1, 3) := by decide +kernel
theorem dX0_begin_54 : decode cX0_begin 54 = .ok (.goto (-16), 3) := by decide +kernel
theorem dX0_begin_57 : decode cX0_begin 57 = .ok (.aload_n 0, 1) := by decide +kernel
theorem dX0_begin_58 : decode cX0_begin 58 = .ok (.iconst 1, 1) := by decide +kernel
theorem dX0_begin_59 : decode cX0_begin 59 = .ok (.putfield 25, 3) := by decide +kernel
theorem dX0_begin_62 : decode cX0_begin 62 = .ok (.return_, 1) := by decide +kernel
theorem dX0_note_0 : decode cX0_note 0 = .ok (.iconst 2, 1) := by decide +kernel
theorem dX0_note_1 : decode cX0_note 1 = .ok (.aload_n 0, 1) := by decide +kernel
theorem dX0_note_2 : decode cX0_note 2 = .ok (.getfield 21, 3) := by decide +kernel
theorem dX0_note_5 : decode cX0_note 5 = .ok (.imul, 1) := by decide +kernel
theorem dX0_note_6 : decode cX0_note 6 = .ok (.iload_n 1, 1) := by decide +kernel
theorem dX0_note_7 : decode cX0_note 7 = .ok (.iadd, 1) := by decide +kernel
theorem dX0_note_8 : decode cX0_note 8 = .ok (.istore 5, 2) := by decide +kernel
theorem dX0_note_10 : decode cX0_note 10 = .ok (.aload_n 0, 1) := by decide +kernel
theorem dX0_note_11 : decode cX0_note 11 = .ok (.getfield 11, 3) := by decide +kernel
theorem dX0_note_14 : decode cX0_note 14 = .ok (.iload 5, 2) := by decide +kernel
theorem dX0_note_16 : decode cX0_note 16 = .ok (.iload_n 2, 1) := by decide +kernel
theorem dX0_note_17 : decode cX0_note 17 = .ok (.iastore, 1) := by decide +kernel
theorem dX0_note_18 : decode cX0_note 18 = .ok (.aload_n 0, 1) := by decide +kernel
theorem dX0_note_19 : decode cX0_note 19 = .ok (.getfield 15, 3) := by decide +kernel
theorem dX0_note_22 : decode cX0_note 22 = .ok (.iload 5, 2) := by decide +kernel
theorem dX0_note_24 : decode cX0_note 24 = .ok (.iload_n 3, 1) := by decide +kernel
theorem dX0_note_25 : decode cX0_note 25 = .ok (.iastore, 1) := by decide +kernel
theorem dX0_note_26 : decode cX0_note 26 = .ok (.aload_n 0, 1) := by decide +kernel
theorem dX0_note_27 : decode cX0_note 27 = .ok (.getfield 18, 3) := by decide +kernel
theorem dX0_note_30 : decode cX0_note 30 = .ok (.iload 5, 2) := by decide +kernel
theorem dX0_note_32 : decode cX0_note 32 = .ok (.iload 4, 2) := by decide +kernel
theorem dX0_note_34 : decode cX0_note 34 = .ok (.iastore, 1) := by decide +kernel
theorem dX0_note_35 : decode cX0_note 35 = .ok (.return_, 1) := by decide +kernel
theorem dX0_forward_0 : decode cX0_forward 0 = .ok (.aload_n 0, 1) := by decide +kernel
theorem dX0_forward_1 : decode cX0_forward 1 = .ok (.getfield 25, 3) := by decide +kernel
theorem dX0_forward_4 : decode cX0_forward 4 = .ok (.ifCond .le 32, 3) := by decide +kernel
theorem dX0_forward_7 : decode cX0_forward 7 = .ok (.aload_n 0, 1) := by decide +kernel
theorem dX0_forward_8 : decode cX0_forward 8 = .ok (.aload_n 1, 1) := by decide +kernel
theorem dX0_forward_9 : decode cX0_forward 9 = .ok (.aload_n 0, 1) := by decide +kernel
theorem dX0_forward_10 : decode cX0_forward 10 = .ok (.getfield 18, 3) := by decide +kernel
theorem dX0_forward_13 : decode cX0_forward 13 = .ok (.invokevirtual 36, 3) := by decide +kernel
theorem dX0_forward_16 : decode cX0_forward 16 = .ok (.aload_n 0, 1) := by decide +kernel
theorem dX0_forward_17 : decode cX0_forward 17 = .ok (.dup, 1) := by decide +kernel
theorem dX0_forward_18 : decode cX0_forward 18 = .ok (.getfield 21, 3) := by decide +kernel
theorem dX0_forward_21 : decode cX0_forward 21 = .ok (.iconst 1, 1) := by decide +kernel
theorem dX0_forward_22 : decode cX0_forward 22 = .ok (.iadd, 1) := by decide +kernel
theorem dX0_forward_23 : decode cX0_forward 23 = .ok (.putfield 21, 3) := by decide +kernel
theorem dX0_forward_26 : decode cX0_forward 26 = .ok (.aload_n 0, 1) := by decide +kernel
theorem dX0_forward_27 : decode cX0_forward 27 = .ok (.dup, 1) := by decide +kernel
theorem dX0_forward_28 : decode cX0_forward 28 = .ok (.getfield 25, 3) := by decide +kernel
theorem dX0_forward_31 : decode cX0_forward 31 = .ok (.iconst 1, 1) := by decide +kernel
theorem dX0_forward_32 : decode cX0_forward 32 = .ok (.isub, 1) := by decide +kernel
theorem dX0_forward_33 : decode cX0_forward 33 = .ok (.putfield 25, 3) := by decide +kernel
theorem dX0_forward_36 : decode cX0_forward 36 = .ok (.return_, 1) := by decide +kernel
theorem dX0_backward_0 : decode cX0_backward 0 = .ok (.aload_n 0, 1) := by decide +kernel
theorem dX0_backward_1 : decode cX0_backward 1 = .ok (.getfield 21, 3) := by decide +kernel
theorem dX0_backward_4 : decode cX0_backward 4 = .ok (.ifCond .le 32, 3) := by decide +kernel
theorem dX0_backward_7 : decode cX0_backward 7 = .ok (.aload_n 0, 1) := by decide +kernel
theorem dX0_backward_8 : decode cX0_backward 8 = .ok (.dup, 1) := by decide +kernel
theorem dX0_backward_9 : decode cX0_backward 9 = .ok (.getfield 21, 3) := by decide +kernel
theorem dX0_backward_12 : decode cX0_backward 12 = .ok (.iconst 1, 1) := by decide +kernel
theorem dX0_backward_13 : decode cX0_backward 13 = .ok (.isub, 1) := by decide +kernel
theorem dX0_backward_14 : decode cX0_backward 14 = .ok (.putfield 21, 3) := by decide +kernel
theorem dX0_backward_17 : decode cX0_backward 17 = .ok (.aload_n 0, 1) := by decide +kernel
theorem dX0_backward_18 : decode cX0_backward 18 = .ok (.dup, 1) := by decide +kernel
theorem dX0_backward_19 : decode cX0_backward 19 = .ok (.getfield 25, 3) := by decide +kernel
theorem dX0_backward_22 : decode cX0_backward 22 = .ok (.iconst 1, 1) := by decide +kernel
theorem dX0_backward_23 : decode cX0_backward 23 = .ok (.iadd, 1) := by decide +kernel
theorem dX0_backward_24 : decode cX0_backward 24 = .ok (.putfield 25, 3) := by decide +kernel
theorem dX0_backward_27 : decode cX0_backward 27 = .ok (.aload_n 0, 1) := by decide +kernel
theorem dX0_backward_28 : decode cX0_backward 28 = .ok (.aload_n 1, 1) := by decide +kernel
theorem dX0_backward_29 : decode cX0_backward 29 = .ok (.aload_n 0, 1) := by decide +kernel
theorem dX0_backward_30 : decode cX0_backward 30 = .ok (.getfield 15, 3) := by decide +kernel
theorem dX0_backward_33 : decode cX0_backward 33 = .ok (.invokevirtual 36, 3) := by decide +kernel
theorem dX0_backward_36 : decode cX0_backward 36 = .ok (.return_, 1) := by decide +kernel
theorem dX0_putAll_0 : decode cX0_putAll 0 = .ok (.iconst 0, 1) := by decide +kernel
theorem dX0_putAll_1 : decode cX0_putAll 1 = .ok (.istore_n 3, 1) := by decide +kernel
theorem dX0_putAll_2 : decode cX0_putAll 2 = .ok (.iload_n 3, 1) := by decide +kernel
theorem dX0_putAll_3 : decode cX0_putAll 3 = .ok (.iconst 2, 1) := by decide +kernel
theorem dX0_putAll_4 : decode cX0_putAll 4 = .ok (.if_icmp .ge 34, 3) := by decide +kernel
theorem dX0_putAll_7 : decode cX0_putAll 7 = .ok (.iconst 2, 1) := by decide +kernel
theorem dX0_putAll_8 : decode cX0_putAll 8 = .ok (.aload_n 0, 1) := by decide +kernel
theorem dX0_putAll_9 : decode cX0_putAll 9 = .ok (.getfield 21, 3) := by decide +kernel
theorem dX0_putAll_12 : decode cX0_putAll 12 = .ok (.imul, 1) := by decide +kernel
theorem dX0_putAll_13 : decode cX0_putAll 13 = .ok (.iload_n 3, 1) := by decide +kernel
theorem dX0_putAll_14 : decode cX0_putAll 14 = .ok (.iadd, 1) := by decide +kernel
theorem dX0_putAll_15 : decode cX0_putAll 15 = .ok (.istore 4, 2) := by decide +kernel
theorem dX0_putAll_17 : decode cX0_putAll 17 = .ok (.aload_n 1, 1) := by decide +kernel
theorem dX0_putAll_18 : decode cX0_putAll 18 = .ok (.aload_n 0, 1) := by decide +kernel
theorem dX0_putAll_19 : decode cX0_putAll 19 = .ok (.getfield 11, 3) := by decide +kernel
theorem dX0_putAll_22 : decode cX0_putAll 22 = .ok (.iload 4, 2) := by decide +kernel
theorem dX0_putAll_24 : decode cX0_putAll 24 = .ok (.iaload, 1) := by decide +kernel
theorem dX0_putAll_25 : decode cX0_putAll 25 = .ok (.aload_n 2, 1) := by decide +kernel
theorem dX0_putAll_26 : decode cX0_putAll 26 = .ok (.iload 4, 2) := by decide +kernel
theorem dX0_putAll_28 : decode cX0_putAll 28 = .ok (.iaload, 1) := by decide +kernel
theorem dX0_putAll_29 : decode cX0_putAll 29 = .ok (.invokevirtual 40, 3) := by decide +kernel
theorem dX0_putAll_32 : decode cX0_putAll 32 = .ok (.iinc 3 1, 3) := by decide +kernel
theorem dX0_putAll_35 : decode cX0_putAll 35 = .ok (.goto (-33), 3) := by decide +kernel
theorem dX0_putAll_38 : decode cX0_putAll 38 = .ok (.aload_n 1, 1) := by decide +kernel
theorem dX0_putAll_39 : decode cX0_putAll 39 = .ok (.invokevirtual 46, 3) := by decide +kernel
theorem dX0_putAll_42 : decode cX0_putAll 42 = .ok (.return_, 1) := by decide +kernel
theorem dX0_dropOldest_0 : decode cX0_dropOldest 0 = .ok (.aload_n 0, 1) := by decide +kernel
theorem dX0_dropOldest_1 : decode cX0_dropOldest 1 = .ok (.iconst 2, 1) := by decide +kernel
theorem dX0_dropOldest_2 : decode cX0_dropOldest 2 = .ok (.aload_n 0, 1) := by decide +kernel
theorem dX0_dropOldest_3 : decode cX0_dropOldest 3 = .ok (.iconst 0, 1) := by decide +kernel
theorem dX0_dropOldest_4 : decode cX0_dropOldest 4 = .ok (.aload_n 0, 1) := by decide +kernel
theorem dX0_dropOldest_5 : decode cX0_dropOldest 5 = .ok (.arraylength, 1) := by decide +kernel
theorem dX0_dropOldest_6 : decode cX0_dropOldest 6 = .ok (.iconst 2, 1) := by decide +kernel
theorem dX0_dropOldest_7 : decode cX0_dropOldest 7 = .ok (.isub, 1) := by decide +kernel
theorem dX0_dropOldest_8 : decode cX0_dropOldest 8 = .ok (.invokestatic 49, 3) := by decide +kernel
theorem dX0_dropOldest_11 : decode cX0_dropOldest 11 = .ok (.return_, 1) := by decide +kernel
theorem dX1_init_0 : decode cX1_init 0 = .ok (.aload_n 0, 1) := by decide +kernel
theorem dX1_init_1 : decode cX1_init 1 = .ok (.invokespecial 5, 3) := by decide +kernel
theorem dX1_init_4 : decode cX1_init 4 = .ok (.aload_n 0, 1) := by decide +kernel
theorem dX1_init_5 : decode cX1_init 5 = .ok (.aload_n 1, 1) := by decide +kernel
theorem dX1_init_6 : decode cX1_init 6 = .ok (.putfield 11, 3) := by decide +kernel
theorem dX1_init_9 : decode cX1_init 9 = .ok (.aload_n 0, 1) := by decide +kernel
theorem dX1_init_10 : decode cX1_init 10 = .ok (.bipush 12, 2) := by decide +kernel
theorem dX1_init_12 : decode cX1_init 12 = .ok (.newarray .int, 2) := by decide +kernel
theorem dX1_init_14 : decode cX1_init 14 = .ok (.putfield 15, 3) := by decide +kernel
theorem dX1_init_17 : decode cX1_init 17 = .ok (.aload_n 0, 1) := by decide +kernel
theorem dX1_init_18 : decode cX1_init 18 = .ok (.sipush 128, 3) := by decide +kernel
theorem dX1_init_21 : decode cX1_init 21 = .ok (.newarray .int, 2) := by decide +kernel
theorem dX1_init_23 : decode cX1_init 23 = .ok (.putfield 19, 3) := by decide +kernel
theorem dX1_init_26 : decode cX1_init 26 = .ok (.aload_n 0, 1) := by decide +kernel
theorem dX1_init_27 : decode cX1_init 27 = .ok (.sipush 512, 3) := by decide +kernel
theorem dX1_init_30 : decode cX1_init 30 = .ok (.newarray .int, 2) := by decide +kernel
theorem dX1_init_32 : decode cX1_init 32 = .ok (.putfield 22, 3) := by decide +kernel
theorem dX1_init_35 : decode cX1_init 35 = .ok (.return_, 1) := by decide +kernel
theorem dX1_fewest_0 : decode cX1_fewest 0 = .ok (.aload_n 0, 1) := by decide +kernel
theorem dX1_fewest_1 : decode cX1_fewest 1 = .ok (.iload_n 2, 1) := by decide +kernel
theorem dX1_fewest_2 : decode cX1_fewest 2 = .ok (.putfield 25, 3) := by decide +kernel
theorem dX1_fewest_5 : decode cX1_fewest 5 = .ok (.aload_n 0, 1) := by decide +kernel
theorem dX1_fewest_6 : decode cX1_fewest 6 = .ok (.iload_n 3, 1) := by decide +kernel
theorem dX1_fewest_7 : decode cX1_fewest 7 = .ok (.putfield 29, 3) := by decide +kernel
theorem dX1_fewest_10 : decode cX1_fewest 10 = .ok (.aload_n 0, 1) := by decide +kernel
theorem dX1_fewest_11 : decode cX1_fewest 11 = .ok (.iload_n 1, 1) := by decide +kernel
theorem dX1_fewest_12 : decode cX1_fewest 12 = .ok (.invokevirtual 32, 3) := by decide +kernel
theorem dX1_fewest_15 : decode cX1_fewest 15 = .ok (.aload_n 0, 1) := by decide +kernel
theorem dX1_fewest_16 : decode cX1_fewest 16 = .ok (.invokevirtual 36, 3) := by decide +kernel
theorem dX1_fewest_19 : decode cX1_fewest 19 = .ok (.iload_n 1, 1) := by decide +kernel
theorem dX1_fewest_20 : decode cX1_fewest 20 = .ok (.ifCond .ne 10, 3) := by decide +kernel
theorem dX1_fewest_23 : decode cX1_fewest 23 = .ok (.aload_n 0, 1) := by decide +kernel
theorem dX1_fewest_24 : decode cX1_fewest 24 = .ok (.invokevirtual 39, 3) := by decide +kernel
theorem dX1_fewest_27 : decode cX1_fewest 27 = .ok (.goto 7, 3) := by decide +kernel
theorem dX1_fewest_30 : decode cX1_fewest 30 = .ok (.aload_n 0, 1) := by decide +kernel
theorem dX1_fewest_31 : decode cX1_fewest 31 = .ok (.getfield 43, 3) := by decide +kernel
theorem dX1_fewest_34 : decode cX1_fewest 34 = .ok (.istore 4, 2) := by decide +kernel
theorem dX1_fewest_36 : decode cX1_fewest 36 = .ok (.iconst 0, 1) := by decide +kernel
theorem dX1_fewest_37 : decode cX1_fewest 37 = .ok (.istore 5, 2) := by decide +kernel
theorem dX1_fewest_39 : decode cX1_fewest 39 = .ok (.iconst 1, 1) := by decide +kernel
theorem dX1_fewest_40 : decode cX1_fewest 40 = .ok (.istore 6, 2) := by decide +kernel
theorem dX1_fewest_42 : decode cX1_fewest 42 = .ok (.iload 6, 2) := by decide +kernel
theorem dX1_fewest_44 : decode cX1_fewest 44 = .ok (.iload 4, 2) := by decide +kernel
theorem dX1_fewest_46 : decode cX1_fewest 46 = .ok (.if_icmp .gt 63, 3) := by decide +kernel
theorem dX1_fewest_49 : decode cX1_fewest 49 = .ok (.iload 5, 2) := by decide +kernel
theorem dX1_fewest_51 : decode cX1_fewest 51 = .ok (.ifCond .eq 16, 3) := by decide +kernel
theorem dX1_fewest_54 : decode cX1_fewest 54 = .ok (.iload 6, 2) := by decide +kernel
theorem dX1_fewest_56 : decode cX1_fewest 56 = .ok (.invokestatic 46, 3) := by decide +kernel
theorem dX1_fewest_59 : decode cX1_fewest 59 = .ok (.iload 5, 2) := by decide +kernel
theorem dX1_fewest_61 : decode cX1_fewest 61 = .ok (.invokestatic 46, 3) := by decide +kernel
theorem dX1_fewest_64 : decode cX1_fewest 64 = .ok (.if_icmp .ge 7, 3) := by decide +kernel
theorem dX1_fewest_67 : decode cX1_fewest 67 = .ok (.iconst 1, 1) := by decide +kernel
theorem dX1_fewest_68 : decode cX1_fewest 68 = .ok (.goto 4, 3) := by decide +kernel
theorem dX1_fewest_71 : decode cX1_fewest 71 = .ok (.iconst 0, 1) := by decide +kernel
theorem dX1_fewest_72 : decode cX1_fewest 72 = .ok (.istore 7, 2) := by decide +kernel
theorem dX1_fewest_74 : decode cX1_fewest 74 = .ok (.iload 7, 2) := by decide +kernel
theorem dX1_fewest_76 : decode cX1_fewest 76 = .ok (.ifCond .eq 27, 3) := by decide +kernel
theorem dX1_fewest_79 : decode cX1_fewest 79 = .ok (.iload 6, 2) := by decide +kernel
theorem dX1_fewest_81 : decode cX1_fewest 81 = .ok (.iload 4, 2) := by decide +kernel
theorem dX1_fewest_83 : decode cX1_fewest 83 = .ok (.iconst (-1), 1) := by decide +kernel
theorem dX1_fewest_84 : decode cX1_fewest 84 = .ok (.ixor, 1) := by decide +kernel
theorem dX1_fewest_85 : decode cX1_fewest 85 = .ok (.iand, 1) := by decide +kernel
theorem dX1_fewest_86 : decode cX1_fewest 86 = .ok (.ifCond .ne 17, 3) := by decide +kernel
theorem dX1_fewest_89 : decode cX1_fewest 89 = .ok (.aload_n 0, 1) := by decide +kernel
theorem dX1_fewest_90 : decode cX1_fewest 90 = .ok (.iload_n 1, 1) := by decide +kernel
theorem dX1_fewest_91 : decode cX1_fewest 91 = .ok (.iload 6, 2) := by decide +kernel
theorem dX1_fewest_93 : decode cX1_fewest 93 = .ok (.invokevirtual 52, 3) := by decide +kernel
theorem dX1_fewest_96 : decode cX1_fewest 96 = .ok (.ifCond .eq 7, 3) := by decide +kernel
theorem dX1_fewest_99 : decode cX1_fewest 99 = .ok (.iload 6, 2) := by decide +kernel
theorem dX1_fewest_101 : decode cX1_fewest 101 = .ok (.istore 5, 2) := by decide +kernel
theorem dX1_fewest_103 : decode cX1_fewest 103 = .ok (.iinc 6 1, 3) := by decide +kernel
theorem dX1_fewest_106 : decode cX1_fewest 106 = .ok (.goto (-64), 3) := by decide +kernel
theorem dX1_fewest_109 : decode cX1_fewest 109 = .ok (.iload 5, 2) := by decide +kernel
theorem dX1_fewest_111 : decode cX1_fewest 111 = .ok (.ireturn, 1) := by decide +kernel
theorem dX1_lookAtPosts_0 : decode cX1_lookAtPosts 0 = .ok (.aload_n 0, 1) := by decide +kernel
theorem dX1_lookAtPosts_1 : decode cX1_lookAtPosts 1 = .ok (.iconst 0, 1) := by decide +kernel
theorem dX1_lookAtPosts_2 : decode cX1_lookAtPosts 2 = .ok (.putfield 43, 3) := by decide +kernel
theorem dX1_lookAtPosts_5 : decode cX1_lookAtPosts 5 = .ok (.iconst 0, 1) := by decide +kernel
theorem dX1_lookAtPosts_6 : decode cX1_lookAtPosts 6 = .ok (.istore_n 2, 1) := by decide +kernel
theorem dX1_lookAtPosts_7 : decode cX1_lookAtPosts 7 = .ok (.iload_n 2, 1) := by decide +kernel
theorem dX1_lookAtPosts_8 : decode cX1_lookAtPosts 8 = .ok (.aload_n 0, 1) := by decide +kernel
theorem dX1_lookAtPosts_9 : decode cX1_lookAtPosts 9 = .ok (.getfield 11, 3) := by decide +kernel
theorem dX1_lookAtPosts_12 : decode cX1_lookAtPosts 12 = .ok (.invokevirtual 56, 3) := by decide +kernel
theorem dX1_lookAtPosts_15 : decode cX1_lookAtPosts 15 = .ok (.if_icmp .ge 104, 3) := by decide +kernel
theorem dX1_lookAtPosts_18 : decode cX1_lookAtPosts 18 = .ok (.iconst 1, 1) := by decide +kernel
theorem dX1_lookAtPosts_19 : decode cX1_lookAtPosts 19 = .ok (.iload_n 2, 1) := by decide +kernel
theorem dX1_lookAtPosts_20 : decode cX1_lookAtPosts 20 = .ok (.ishl, 1) := by decide +kernel
theorem dX1_lookAtPosts_21 : decode cX1_lookAtPosts 21 = .ok (.istore_n 3, 1) := by decide +kernel
theorem dX1_lookAtPosts_22 : decode cX1_lookAtPosts 22 = .ok (.aload_n 0, 1) := by decide +kernel
theorem dX1_lookAtPosts_23 : decode cX1_lookAtPosts 23 = .ok (.getfield 11, 3) := by decide +kernel
theorem dX1_lookAtPosts_26 : decode cX1_lookAtPosts 26 = .ok (.iload_n 2, 1) := by decide +kernel
theorem dX1_lookAtPosts_27 : decode cX1_lookAtPosts 27 = .ok (.invokevirtual 61, 3) := by decide +kernel
theorem dX1_lookAtPosts_30 : decode cX1_lookAtPosts 30 = .ok (.iload_n 1, 1) := by decide +kernel
theorem dX1_lookAtPosts_31 : decode cX1_lookAtPosts 31 = .ok (.ifCond .ne 19, 3) := by decide +kernel
theorem dX1_lookAtPosts_34 : decode cX1_lookAtPosts 34 = .ok (.aload_n 0, 1) := by decide +kernel
theorem dX1_lookAtPosts_35 : decode cX1_lookAtPosts 35 = .ok (.getfield 29, 3) := by decide +kernel
theorem dX1_lookAtPosts_38 : decode cX1_lookAtPosts 38 = .ok (.aload_n 0, 1) := by decide +kernel
theorem dX1_lookAtPosts_39 : decode cX1_lookAtPosts 39 = .ok (.getfield 11, 3) := by decide +kernel
theorem dX1_lookAtPosts_42 : decode cX1_lookAtPosts 42 = .ok (.iload_n 2, 1) := by decide +kernel
theorem dX1_lookAtPosts_43 : decode cX1_lookAtPosts 43 = .ok (.invokevirtual 64, 3) := by decide +kernel
theorem dX1_lookAtPosts_46 : decode cX1_lookAtPosts 46 = .ok (.imul, 1) := by decide +kernel
theorem dX1_lookAtPosts_47 : decode cX1_lookAtPosts 47 = .ok (.goto 4, 3) := by decide +kernel
theorem dX1_lookAtPosts_50 : decode cX1_lookAtPosts 50 = .ok (.iconst 0, 1) := by decide +kernel
theorem dX1_lookAtPosts_51 : decode cX1_lookAtPosts 51 = .ok (.isub, 1) := by decide +kernel
theorem dX1_lookAtPosts_52 : decode cX1_lookAtPosts 52 = .ok (.istore 4, 2) := by decide +kernel
theorem dX1_lookAtPosts_54 : decode cX1_lookAtPosts 54 = .ok (.aload_n 0, 1) := by decide +kernel
theorem dX1_lookAtPosts_55 : decode cX1_lookAtPosts 55 = .ok (.dup, 1) := by decide +kernel
theorem dX1_lookAtPosts_56 : decode cX1_lookAtPosts 56 = .ok (.getfield 43, 3) := by decide +kernel
theorem dX1_lookAtPosts_59 : decode cX1_lookAtPosts 59 = .ok (.aload_n 0, 1) := by decide +kernel
theorem dX1_lookAtPosts_60 : decode cX1_lookAtPosts 60 = .ok (.getfield 11, 3) := by decide +kernel
theorem dX1_lookAtPosts_63 : decode cX1_lookAtPosts 63 = .ok (.iload_n 2, 1) := by decide +kernel
theorem dX1_lookAtPosts_64 : decode cX1_lookAtPosts 64 = .ok (.invokevirtual 67, 3) := by decide +kernel
theorem dX1_lookAtPosts_67 : decode cX1_lookAtPosts 67 = .ok (.ifCond .eq 7, 3) := by decide +kernel
theorem dX1_lookAtPosts_70 : decode cX1_lookAtPosts 70 = .ok (.iload_n 3, 1) := by decide +kernel
theorem dX1_lookAtPosts_71 : decode cX1_lookAtPosts 71 = .ok (.goto 4, 3) := by decide +kernel
theorem dX1_lookAtPosts_74 : decode cX1_lookAtPosts 74 = .ok (.iconst 0, 1) := by decide +kernel
theorem dX1_lookAtPosts_75 : decode cX1_lookAtPosts 75 = .ok (.ior, 1) := by decide +kernel
theorem dX1_lookAtPosts_76 : decode cX1_lookAtPosts 76 = .ok (.putfield 43, 3) := by decide +kernel
theorem dX1_lookAtPosts_79 : decode cX1_lookAtPosts 79 = .ok (.iconst 0, 1) := by decide +kernel
theorem dX1_lookAtPosts_80 : decode cX1_lookAtPosts 80 = .ok (.istore 5, 2) := by decide +kernel
theorem dX1_lookAtPosts_82 : decode cX1_lookAtPosts 82 = .ok (.iload 5, 2) := by decide +kernel
theorem dX1_lookAtPosts_84 : decode cX1_lookAtPosts 84 = .ok (.iload_n 3, 1) := by decide +kernel
theorem dX1_lookAtPosts_85 : decode cX1_lookAtPosts 85 = .ok (.if_icmp .ge 28, 3) := by decide +kernel
theorem dX1_lookAtPosts_88 : decode cX1_lookAtPosts 88 = .ok (.aload_n 0, 1) := by decide +kernel
theorem dX1_lookAtPosts_89 : decode cX1_lookAtPosts 89 = .ok (.getfield 22, 3) := by decide +kernel
theorem dX1_lookAtPosts_92 : decode cX1_lookAtPosts 92 = .ok (.iload_n 3, 1) := by decide +kernel
theorem dX1_lookAtPosts_93 : decode cX1_lookAtPosts 93 = .ok (.iload 5, 2) := by decide +kernel
theorem dX1_lookAtPosts_95 : decode cX1_lookAtPosts 95 = .ok (.iadd, 1) := by decide +kernel
theorem dX1_lookAtPosts_96 : decode cX1_lookAtPosts 96 = .ok (.aload_n 0, 1) := by decide +kernel
theorem dX1_lookAtPosts_97 : decode cX1_lookAtPosts 97 = .ok (.getfield 22, 3) := by decide +kernel
theorem dX1_lookAtPosts_100 : decode cX1_lookAtPosts 100 = .ok (.iload 5, 2) := by decide +kernel
theorem dX1_lookAtPosts_102 : decode cX1_lookAtPosts 102 = .ok (.iaload, 1) := by decide +kernel
theorem dX1_lookAtPosts_103 : decode cX1_lookAtPosts 103 = .ok (.iload 4, 2) := by decide +kernel
theorem dX1_lookAtPosts_105 : decode cX1_lookAtPosts 105 = .ok (.iadd, 1) := by decide +kernel
theorem dX1_lookAtPosts_106 : decode cX1_lookAtPosts 106 = .ok (.iastore, 1) := by decide +kernel
theorem dX1_lookAtPosts_107 : decode cX1_lookAtPosts 107 = .ok (.iinc 5 1, 3) := by decide +kernel
theorem dX1_lookAtPosts_110 : decode cX1_lookAtPosts 110 = .ok (.goto (-28), 3) := by decide +kernel
theorem dX1_lookAtPosts_113 : decode cX1_lookAtPosts 113 = .ok (.iinc 2 1, 3) := by decide +kernel
theorem dX1_lookAtPosts_116 : decode cX1_lookAtPosts 116 = .ok (.goto (-109), 3) := by decide +kernel
theorem dX1_lookAtPosts_119 : decode cX1_lookAtPosts 119 = .ok (.return_, 1) := by decide +kernel
theorem dX1_lookAtThirds_0 : decode cX1_lookAtThirds 0 = .ok (.iconst 0, 1) := by decide +kernel
theorem dX1_lookAtThirds_1 : decode cX1_lookAtThirds 1 = .ok (.istore_n 1, 1) := by decide +kernel
theorem dX1_lookAtThirds_2 : decode cX1_lookAtThirds 2 = .ok (.iload_n 1, 1) := by decide +kernel
theorem dX1_lookAtThirds_3 : decode cX1_lookAtThirds 3 = .ok (.aload_n 0, 1) := by decide +kernel
theorem dX1_lookAtThirds_4 : decode cX1_lookAtThirds 4 = .ok (.getfield 11, 3) := by decide +kernel
theorem dX1_lookAtThirds_7 : decode cX1_lookAtThirds 7 = .ok (.invokevirtual 71, 3) := by decide +kernel
theorem dX1_lookAtThirds_10 : decode cX1_lookAtThirds 10 = .ok (.if_icmp .ge 119, 3) := by decide +kernel
theorem dX1_lookAtThirds_13 : decode cX1_lookAtThirds 13 = .ok (.aload_n 0, 1) := by decide +kernel
theorem dX1_lookAtThirds_14 : decode cX1_lookAtThirds 14 = .ok (.getfield 15, 3) := by decide +kernel
theorem dX1_lookAtThirds_17 : decode cX1_lookAtThirds 17 = .ok (.iload_n 1, 1) := by decide +kernel
theorem dX1_lookAtThirds_18 : decode cX1_lookAtThirds 18 = .ok (.iconst 1, 1) := by decide +kernel
theorem dX1_lookAtThirds_19 : decode cX1_lookAtThirds 19 = .ok (.aload_n 0, 1) := by decide +kernel
theorem dX1_lookAtThirds_20 : decode cX1_lookAtThirds 20 = .ok (.getfield 11, 3) := by decide +kernel
theorem dX1_lookAtThirds_23 : decode cX1_lookAtThirds 23 = .ok (.iconst 3, 1) := by decide +kernel
theorem dX1_lookAtThirds_24 : decode cX1_lookAtThirds 24 = .ok (.iload_n 1, 1) := by decide +kernel
theorem dX1_lookAtThirds_25 : decode cX1_lookAtThirds 25 = .ok (.imul, 1) := by decide +kernel
theorem dX1_lookAtThirds_26 : decode cX1_lookAtThirds 26 = .ok (.invokevirtual 74, 3) := by decide +kernel
theorem dX1_lookAtThirds_29 : decode cX1_lookAtThirds 29 = .ok (.ishl, 1) := by decide +kernel
theorem dX1_lookAtThirds_30 : decode cX1_lookAtThirds 30 = .ok (.iconst 1, 1) := by decide +kernel
theorem dX1_lookAtThirds_31 : decode cX1_lookAtThirds 31 = .ok (.aload_n 0, 1) := by decide +kernel
theorem dX1_lookAtThirds_32 : decode cX1_lookAtThirds 32 = .ok (.getfield 11, 3) := by decide +kernel
theorem dX1_lookAtThirds_35 : decode cX1_lookAtThirds 35 = .ok (.iconst 3, 1) := by decide +kernel
theorem dX1_lookAtThirds_36 : decode cX1_lookAtThirds 36 = .ok (.iload_n 1, 1) := by decide +kernel
theorem dX1_lookAtThirds_37 : decode cX1_lookAtThirds 37 = .ok (.imul, 1) := by decide +kernel
theorem dX1_lookAtThirds_38 : decode cX1_lookAtThirds 38 = .ok (.iconst 1, 1) := by decide +kernel
theorem dX1_lookAtThirds_39 : decode cX1_lookAtThirds 39 = .ok (.iadd, 1) := by decide +kernel
theorem dX1_lookAtThirds_40 : decode cX1_lookAtThirds 40 = .ok (.invokevirtual 74, 3) := by decide +kernel
theorem dX1_lookAtThirds_43 : decode cX1_lookAtThirds 43 = .ok (.ishl, 1) := by decide +kernel
theorem dX1_lookAtThirds_44 : decode cX1_lookAtThirds 44 = .ok (.ior, 1) := by decide +kernel
theorem dX1_lookAtThirds_45 : decode cX1_lookAtThirds 45 = .ok (.iconst 1, 1) := by decide +kernel
theorem dX1_lookAtThirds_46 : decode cX1_lookAtThirds 46 = .ok (.aload_n 0, 1) := by decide +kernel
theorem dX1_lookAtThirds_47 : decode cX1_lookAtThirds 47 = .ok (.getfield 11, 3) := by decide +kernel
theorem dX1_lookAtThirds_50 : decode cX1_lookAtThirds 50 = .ok (.iconst 3, 1) := by decide +kernel
theorem dX1_lookAtThirds_51 : decode cX1_lookAtThirds 51 = .ok (.iload_n 1, 1) := by decide +kernel
theorem dX1_lookAtThirds_52 : decode cX1_lookAtThirds 52 = .ok (.imul, 1) := by decide +kernel
theorem dX1_lookAtThirds_53 : decode cX1_lookAtThirds 53 = .ok (.iconst 2, 1) := by decide +kernel
theorem dX1_lookAtThirds_54 : decode cX1_lookAtThirds 54 = .ok (.iadd, 1) := by decide +kernel
theorem dX1_lookAtThirds_55 : decode cX1_lookAtThirds 55 = .ok (.invokevirtual 74, 3) := by decide +kernel
theorem dX1_lookAtThirds_58 : decode cX1_lookAtThirds 58 = .ok (.ishl, 1) := by decide +kernel
theorem dX1_lookAtThirds_59 : decode cX1_lookAtThirds 59 = .ok (.ior, 1) := by decide +kernel
theorem dX1_lookAtThirds_60 : decode cX1_lookAtThirds 60 = .ok (.iastore, 1) := by decide +kernel
theorem dX1_lookAtThirds_61 : decode cX1_lookAtThirds 61 = .ok (.iload_n 1, 1) := by decide +kernel
theorem dX1_lookAtThirds_62 : decode cX1_lookAtThirds 62 = .ok (.bipush 6, 2) := by decide +kernel
theorem dX1_lookAtThirds_64 : decode cX1_lookAtThirds 64 = .ok (.if_icmp .ge 7, 3) := by decide +kernel
theorem dX1_lookAtThirds_67 : decode cX1_lookAtThirds 67 = .ok (.iconst 0, 1) := by decide +kernel
theorem dX1_lookAtThirds_68 : decode cX1_lookAtThirds 68 = .ok (.goto 5, 3) := by decide +kernel
theorem dX1_lookAtThirds_71 : decode cX1_lookAtThirds 71 = .ok (.bipush 64, 2) := by decide +kernel
theorem dX1_lookAtThirds_73 : decode cX1_lookAtThirds 73 = .ok (.istore_n 2, 1) := by decide +kernel
theorem dX1_lookAtThirds_74 : decode cX1_lookAtThirds 74 = .ok (.iconst 1, 1) := by decide +kernel
theorem dX1_lookAtThirds_75 : decode cX1_lookAtThirds 75 = .ok (.iload_n 1, 1) := by decide +kernel
theorem dX1_lookAtThirds_76 : decode cX1_lookAtThirds 76 = .ok (.bipush 6, 2) := by decide +kernel
theorem dX1_lookAtThirds_78 : decode cX1_lookAtThirds 78 = .ok (.irem, 1) := by decide +kernel
theorem dX1_lookAtThirds_79 : decode cX1_lookAtThirds 79 = .ok (.ishl, 1) := by decide +kernel
theorem dX1_lookAtThirds_80 : decode cX1_lookAtThirds 80 = .ok (.istore_n 3, 1) := by decide +kernel
theorem dX1_lookAtThirds_81 : decode cX1_lookAtThirds 81 = .ok (.iconst 0, 1) := by decide +kernel
theorem dX1_lookAtThirds_82 : decode cX1_lookAtThirds 82 = .ok (.istore 4, 2) := by decide +kernel
theorem dX1_lookAtThirds_84 : decode cX1_lookAtThirds 84 = .ok (.iload 4, 2) := by decide +kernel
theorem dX1_lookAtThirds_86 : decode cX1_lookAtThirds 86 = .ok (.iload_n 3, 1) := by decide +kernel
theorem dX1_lookAtThirds_87 : decode cX1_lookAtThirds 87 = .ok (.if_icmp .ge 36, 3) := by decide +kernel
theorem dX1_lookAtThirds_90 : decode cX1_lookAtThirds 90 = .ok (.aload_n 0, 1) := by decide +kernel
theorem dX1_lookAtThirds_91 : decode cX1_lookAtThirds 91 = .ok (.getfield 19, 3) := by decide +kernel
theorem dX1_lookAtThirds_94 : decode cX1_lookAtThirds 94 = .ok (.iload_n 2, 1) := by decide +kernel
theorem dX1_lookAtThirds_95 : decode cX1_lookAtThirds 95 = .ok (.iload_n 3, 1) := by decide +kernel
theorem dX1_lookAtThirds_96 : decode cX1_lookAtThirds 96 = .ok (.iadd, 1) := by decide +kernel
theorem dX1_lookAtThirds_97 : decode cX1_lookAtThirds 97 = .ok (.iload 4, 2) := by decide +kernel
theorem dX1_lookAtThirds_99 : decode cX1_lookAtThirds 99 = .ok (.iadd, 1) := by decide +kernel
theorem dX1_lookAtThirds_100 : decode cX1_lookAtThirds 100 = .ok (.aload_n 0, 1) := by decide +kernel
theorem dX1_lookAtThirds_101 : decode cX1_lookAtThirds 101 = .ok (.getfield 19, 3) := by decide +kernel
theorem dX1_lookAtThirds_104 : decode cX1_lookAtThirds 104 = .ok (.iload_n 2, 1) := by decide +kernel
theorem dX1_lookAtThirds_105 : decode cX1_lookAtThirds 105 = .ok (.iload 4, 2) := by decide +kernel
theorem dX1_lookAtThirds_107 : decode cX1_lookAtThirds 107 = .ok (.iadd, 1) := by decide +kernel
theorem dX1_lookAtThirds_108 : decode cX1_lookAtThirds 108 = .ok (.iaload, 1) := by decide +kernel
theorem dX1_lookAtThirds_109 : decode cX1_lookAtThirds 109 = .ok (.aload_n 0, 1) := by decide +kernel
theorem dX1_lookAtThirds_110 : decode cX1_lookAtThirds 110 = .ok (.getfield 15, 3) := by decide +kernel
theorem dX1_lookAtThirds_113 : decode cX1_lookAtThirds 113 = .ok (.iload_n 1, 1) := by decide +kernel
theorem dX1_lookAtThirds_114 : decode cX1_lookAtThirds 114 = .ok (.iaload, 1) := by decide +kernel
theorem dX1_lookAtThirds_115 : decode cX1_lookAtThirds 115 = .ok (.ior, 1) := by decide +kernel
theorem dX1_lookAtThirds_116 : decode cX1_lookAtThirds 116 = .ok (.iastore, 1) := by decide +kernel
theorem dX1_lookAtThirds_117 : decode cX1_lookAtThirds 117 = .ok (.iinc 4 1, 3) := by decide +kernel
theorem dX1_lookAtThirds_120 : decode cX1_lookAtThirds 120 = .ok (.goto (-36), 3) := by decide +kernel
theorem dX1_lookAtThirds_123 : decode cX1_lookAtThirds 123 = .ok (.iinc 1 1, 3) := by decide +kernel
theorem dX1_lookAtThirds_126 : decode cX1_lookAtThirds 126 = .ok (.goto (-124), 3) := by decide +kernel
theorem dX1_lookAtThirds_129 : decode cX1_lookAtThirds 129 = .ok (.return_, 1) := by decide +kernel
theorem dX1_thirdsAtToldPosts_0 : decode cX1_thirdsAtToldPosts 0 = .ok (.iconst 0, 1) := by decide +kernel
theorem dX1_thirdsAtToldPosts_1 : decode cX1_thirdsAtToldPosts 1 = .ok (.istore_n 1, 1) := by decide +kernel
theorem dX1_thirdsAtToldPosts_2 : decode cX1_thirdsAtToldPosts 2 = .ok (.iconst 0, 1) := by decide +kernel
theorem dX1_thirdsAtToldPosts_3 : decode cX1_thirdsAtToldPosts 3 = .ok (.istore_n 2, 1) := by decide +kernel
theorem dX1_thirdsAtToldPosts_4 : decode cX1_thirdsAtToldPosts 4 = .ok (.iload_n 2, 1) := by decide +kernel
theorem dX1_thirdsAtToldPosts_5 : decode cX1_thirdsAtToldPosts 5 = .ok (.aload_n 0, 1) := by decide +kernel
theorem dX1_thirdsAtToldPosts_6 : decode cX1_thirdsAtToldPosts 6 = .ok (.getfield 11, 3) := by decide +kernel
theorem dX1_thirdsAtToldPosts_9 : decode cX1_thirdsAtToldPosts 9 = .ok (.invokevirtual 71, 3) := by decide +kernel
theorem dX1_thirdsAtToldPosts_12 : decode cX1_thirdsAtToldPosts 12 = .ok (.if_icmp .ge 35, 3) := by decide +kernel
theorem dX1_thirdsAtToldPosts_15 : decode cX1_thirdsAtToldPosts 15 = .ok (.iload_n 1, 1) := by decide +kernel
theorem dX1_thirdsAtToldPosts_16 : decode cX1_thirdsAtToldPosts 16 = .ok (.aload_n 0, 1) := by decide +kernel
theorem dX1_thirdsAtToldPosts_17 : decode cX1_thirdsAtToldPosts 17 = .ok (.getfield 15, 3) := by decide +kernel
theorem dX1_thirdsAtToldPosts_20 : decode cX1_thirdsAtToldPosts 20 = .ok (.iload_n 2, 1) := by decide +kernel
theorem dX1_thirdsAtToldPosts_21 : decode cX1_thirdsAtToldPosts 21 = .ok (.iaload, 1) := by decide +kernel
theorem dX1_thirdsAtToldPosts_22 : decode cX1_thirdsAtToldPosts 22 = .ok (.aload_n 0, 1) := by decide +kernel
theorem dX1_thirdsAtToldPosts_23 : decode cX1_thirdsAtToldPosts 23 = .ok (.getfield 43, 3) := by decide +kernel
theorem dX1_thirdsAtToldPosts_26 : decode cX1_thirdsAtToldPosts 26 = .ok (.iconst (-1), 1) := by decide +kernel
theorem dX1_thirdsAtToldPosts_27 : decode cX1_thirdsAtToldPosts 27 = .ok (.ixor, 1) := by decide +kernel
theorem dX1_thirdsAtToldPosts_28 : decode cX1_thirdsAtToldPosts 28 = .ok (.iand, 1) := by decide +kernel
theorem dX1_thirdsAtToldPosts_29 : decode cX1_thirdsAtToldPosts 29 = .ok (.ifCond .ne 9, 3) := by decide +kernel
theorem dX1_thirdsAtToldPosts_32 : decode cX1_thirdsAtToldPosts 32 = .ok (.iconst 1, 1) := by decide +kernel
theorem dX1_thirdsAtToldPosts_33 : decode cX1_thirdsAtToldPosts 33 = .ok (.iload_n 2, 1) := by decide +kernel
theorem dX1_thirdsAtToldPosts_34 : decode cX1_thirdsAtToldPosts 34 = .ok (.ishl, 1) := by decide +kernel
theorem dX1_thirdsAtToldPosts_35 : decode cX1_thirdsAtToldPosts 35 = .ok (.goto 4, 3) := by decide +kernel
theorem dX1_thirdsAtToldPosts_38 : decode cX1_thirdsAtToldPosts 38 = .ok (.iconst 0, 1) := by decide +kernel
theorem dX1_thirdsAtToldPosts_39 : decode cX1_thirdsAtToldPosts 39 = .ok (.ior, 1) := by decide +kernel
theorem dX1_thirdsAtToldPosts_40 : decode cX1_thirdsAtToldPosts 40 = .ok (.istore_n 1, 1) := by decide +kernel
theorem dX1_thirdsAtToldPosts_41 : decode cX1_thirdsAtToldPosts 41 = .ok (.iinc 2 1, 3) := by decide +kernel
theorem dX1_thirdsAtToldPosts_44 : decode cX1_thirdsAtToldPosts 44 = .ok (.goto (-40), 3) := by decide +kernel
theorem dX1_thirdsAtToldPosts_47 : decode cX1_thirdsAtToldPosts 47 = .ok (.iload_n 1, 1) := by decide +kernel
theorem dX1_thirdsAtToldPosts_48 : decode cX1_thirdsAtToldPosts 48 = .ok (.ireturn, 1) := by decide +kernel
theorem dX1_isBar_0 : decode cX1_isBar 0 = .ok (.iload_n 1, 1) := by decide +kernel
theorem dX1_isBar_1 : decode cX1_isBar 1 = .ok (.lookupswitch 70 #[(0, 27), (1, 50)], 27) := by decide +kernel
theorem dX1_isBar_28 : decode cX1_isBar 28 = .ok (.aload_n 0, 1) := by decide +kernel
theorem dX1_isBar_29 : decode cX1_isBar 29 = .ok (.getfield 25, 3) := by decide +kernel
theorem dX1_isBar_32 : decode cX1_isBar 32 = .ok (.iload_n 2, 1) := by decide +kernel
theorem dX1_isBar_33 : decode cX1_isBar 33 = .ok (.invokestatic 46, 3) := by decide +kernel
theorem dX1_isBar_36 : decode cX1_isBar 36 = .ok (.imul, 1) := by decide +kernel
theorem dX1_isBar_37 : decode cX1_isBar 37 = .ok (.aload_n 0, 1) := by decide +kernel
theorem dX1_isBar_38 : decode cX1_isBar 38 = .ok (.iload_n 2, 1) := by decide +kernel
theorem dX1_isBar_39 : decode cX1_isBar 39 = .ok (.invokevirtual 77, 3) := by decide +kernel
theorem dX1_isBar_42 : decode cX1_isBar 42 = .ok (.if_icmp .le 7, 3) := by decide +kernel
theorem dX1_isBar_45 : decode cX1_isBar 45 = .ok (.iconst 1, 1) := by decide +kernel
theorem dX1_isBar_46 : decode cX1_isBar 46 = .ok (.goto 4, 3) := by decide +kernel
theorem dX1_isBar_49 : decode cX1_isBar 49 = .ok (.iconst 0, 1) := by decide +kernel
theorem dX1_isBar_50 : decode cX1_isBar 50 = .ok (.ireturn, 1) := by decide +kernel
theorem dX1_isBar_51 : decode cX1_isBar 51 = .ok (.aload_n 0, 1) := by decide +kernel
theorem dX1_isBar_52 : decode cX1_isBar 52 = .ok (.getfield 22, 3) := by decide +kernel
theorem dX1_isBar_55 : decode cX1_isBar 55 = .ok (.iload_n 2, 1) := by decide +kernel
theorem dX1_isBar_56 : decode cX1_isBar 56 = .ok (.iaload, 1) := by decide +kernel
theorem dX1_isBar_57 : decode cX1_isBar 57 = .ok (.aload_n 0, 1) := by decide +kernel
theorem dX1_isBar_58 : decode cX1_isBar 58 = .ok (.iload_n 2, 1) := by decide +kernel
theorem dX1_isBar_59 : decode cX1_isBar 59 = .ok (.invokevirtual 80, 3) := by decide +kernel
theorem dX1_isBar_62 : decode cX1_isBar 62 = .ok (.if_icmp .le 7, 3) := by decide +kernel
theorem dX1_isBar_65 : decode cX1_isBar 65 = .ok (.iconst 1, 1) := by decide +kernel
theorem dX1_isBar_66 : decode cX1_isBar 66 = .ok (.goto 4, 3) := by decide +kernel
theorem dX1_isBar_69 : decode cX1_isBar 69 = .ok (.iconst 0, 1) := by decide +kernel
theorem dX1_isBar_70 : decode cX1_isBar 70 = .ok (.ireturn, 1) := by decide +kernel
theorem dX1_isBar_71 : decode cX1_isBar 71 = .ok (.aload_n 0, 1) := by decide +kernel
theorem dX1_isBar_72 : decode cX1_isBar 72 = .ok (.getfield 22, 3) := by decide +kernel
theorem dX1_isBar_75 : decode cX1_isBar 75 = .ok (.iload_n 2, 1) := by decide +kernel
theorem dX1_isBar_76 : decode cX1_isBar 76 = .ok (.iaload, 1) := by decide +kernel
theorem dX1_isBar_77 : decode cX1_isBar 77 = .ok (.aload_n 0, 1) := by decide +kernel
theorem dX1_isBar_78 : decode cX1_isBar 78 = .ok (.iload_n 2, 1) := by decide +kernel
theorem dX1_isBar_79 : decode cX1_isBar 79 = .ok (.invokevirtual 83, 3) := by decide +kernel
theorem dX1_isBar_82 : decode cX1_isBar 82 = .ok (.if_icmp .ge 7, 3) := by decide +kernel
theorem dX1_isBar_85 : decode cX1_isBar 85 = .ok (.iconst 1, 1) := by decide +kernel
theorem dX1_isBar_86 : decode cX1_isBar 86 = .ok (.goto 4, 3) := by decide +kernel
theorem dX1_isBar_89 : decode cX1_isBar 89 = .ok (.iconst 0, 1) := by decide +kernel
theorem dX1_isBar_90 : decode cX1_isBar 90 = .ok (.ireturn, 1) := by decide +kernel
theorem dX1_roomFor_0 : decode cX1_roomFor 0 = .ok (.aload_n 0, 1) := by decide +kernel
theorem dX1_roomFor_1 : decode cX1_roomFor 1 = .ok (.getfield 19, 3) := by decide +kernel
theorem dX1_roomFor_4 : decode cX1_roomFor 4 = .ok (.iload_n 1, 1) := by decide +kernel
theorem dX1_roomFor_5 : decode cX1_roomFor 5 = .ok (.bipush 64, 2) := by decide +kernel
theorem dX1_roomFor_7 : decode cX1_roomFor 7 = .ok (.irem, 1) := by decide +kernel
theorem dX1_roomFor_8 : decode cX1_roomFor 8 = .ok (.iaload, 1) := by decide +kernel
theorem dX1_roomFor_9 : decode cX1_roomFor 9 = .ok (.aload_n 0, 1) := by decide +kernel
theorem dX1_roomFor_10 : decode cX1_roomFor 10 = .ok (.getfield 19, 3) := by decide +kernel
theorem dX1_roomFor_13 : decode cX1_roomFor 13 = .ok (.bipush 64, 2) := by decide +kernel
theorem dX1_roomFor_15 : decode cX1_roomFor 15 = .ok (.iload_n 1, 1) := by decide +kernel
theorem dX1_roomFor_16 : decode cX1_roomFor 16 = .ok (.bipush 64, 2) := by decide +kernel
theorem dX1_roomFor_18 : decode cX1_roomFor 18 = .ok (.idiv, 1) := by decide +kernel
theorem dX1_roomFor_19 : decode cX1_roomFor 19 = .ok (.iadd, 1) := by decide +kernel
theorem dX1_roomFor_20 : decode cX1_roomFor 20 = .ok (.iaload, 1) := by decide +kernel
theorem dX1_roomFor_21 : decode cX1_roomFor 21 = .ok (.ior, 1) := by decide +kernel
theorem dX1_roomFor_22 : decode cX1_roomFor 22 = .ok (.istore_n 2, 1) := by decide +kernel
theorem dX1_roomFor_23 : decode cX1_roomFor 23 = .ok (.aload_n 0, 1) := by decide +kernel
theorem dX1_roomFor_24 : decode cX1_roomFor 24 = .ok (.getfield 22, 3) := by decide +kernel
theorem dX1_roomFor_27 : decode cX1_roomFor 27 = .ok (.iload_n 2, 1) := by decide +kernel
theorem dX1_roomFor_28 : decode cX1_roomFor 28 = .ok (.iaload, 1) := by decide +kernel
theorem dX1_roomFor_29 : decode cX1_roomFor 29 = .ok (.iconst 3, 1) := by decide +kernel
theorem dX1_roomFor_30 : decode cX1_roomFor 30 = .ok (.aload_n 0, 1) := by decide +kernel
theorem dX1_roomFor_31 : decode cX1_roomFor 31 = .ok (.getfield 29, 3) := by decide +kernel
theorem dX1_roomFor_34 : decode cX1_roomFor 34 = .ok (.imul, 1) := by decide +kernel
theorem dX1_roomFor_35 : decode cX1_roomFor 35 = .ok (.iload_n 1, 1) := by decide +kernel
theorem dX1_roomFor_36 : decode cX1_roomFor 36 = .ok (.invokestatic 46, 3) := by decide +kernel
theorem dX1_roomFor_39 : decode cX1_roomFor 39 = .ok (.imul, 1) := by decide +kernel
theorem dX1_roomFor_40 : decode cX1_roomFor 40 = .ok (.iadd, 1) := by decide +kernel
theorem dX1_roomFor_41 : decode cX1_roomFor 41 = .ok (.ireturn, 1) := by decide +kernel
theorem dX1_mostOf_0 : decode cX1_mostOf 0 = .ok (.iconst 0, 1) := by decide +kernel
theorem dX1_mostOf_1 : decode cX1_mostOf 1 = .ok (.istore_n 2, 1) := by decide +kernel
theorem dX1_mostOf_2 : decode cX1_mostOf 2 = .ok (.iconst 0, 1) := by decide +kernel
theorem dX1_mostOf_3 : decode cX1_mostOf 3 = .ok (.istore_n 3, 1) := by decide +kernel
theorem dX1_mostOf_4 : decode cX1_mostOf 4 = .ok (.iload_n 3, 1) := by decide +kernel
theorem dX1_mostOf_5 : decode cX1_mostOf 5 = .ok (.aload_n 0, 1) := by decide +kernel
theorem dX1_mostOf_6 : decode cX1_mostOf 6 = .ok (.getfield 11, 3) := by decide +kernel
theorem dX1_mostOf_9 : decode cX1_mostOf 9 = .ok (.invokevirtual 71, 3) := by decide +kernel
theorem dX1_mostOf_12 : decode cX1_mostOf 12 = .ok (.if_icmp .ge 48, 3) := by decide +kernel
theorem dX1_mostOf_15 : decode cX1_mostOf 15 = .ok (.aload_n 0, 1) := by decide +kernel
theorem dX1_mostOf_16 : decode cX1_mostOf 16 = .ok (.getfield 15, 3) := by decide +kernel
theorem dX1_mostOf_19 : decode cX1_mostOf 19 = .ok (.iload_n 3, 1) := by decide +kernel
theorem dX1_mostOf_20 : decode cX1_mostOf 20 = .ok (.iaload, 1) := by decide +kernel
theorem dX1_mostOf_21 : decode cX1_mostOf 21 = .ok (.iload_n 1, 1) := by decide +kernel
theorem dX1_mostOf_22 : decode cX1_mostOf 22 = .ok (.iand, 1) := by decide +kernel
theorem dX1_mostOf_23 : decode cX1_mostOf 23 = .ok (.invokestatic 46, 3) := by decide +kernel
theorem dX1_mostOf_26 : decode cX1_mostOf 26 = .ok (.istore 4, 2) := by decide +kernel
theorem dX1_mostOf_28 : decode cX1_mostOf 28 = .ok (.iload_n 2, 1) := by decide +kernel
theorem dX1_mostOf_29 : decode cX1_mostOf 29 = .ok (.iload 4, 2) := by decide +kernel
theorem dX1_mostOf_31 : decode cX1_mostOf 31 = .ok (.ifCond .ne 7, 3) := by decide +kernel
theorem dX1_mostOf_34 : decode cX1_mostOf 34 = .ok (.iconst 0, 1) := by decide +kernel
theorem dX1_mostOf_35 : decode cX1_mostOf 35 = .ok (.goto 17, 3) := by decide +kernel
theorem dX1_mostOf_38 : decode cX1_mostOf 38 = .ok (.aload_n 0, 1) := by decide +kernel
theorem dX1_mostOf_39 : decode cX1_mostOf 39 = .ok (.getfield 25, 3) := by decide +kernel
theorem dX1_mostOf_42 : decode cX1_mostOf 42 = .ok (.aload_n 0, 1) := by decide +kernel
theorem dX1_mostOf_43 : decode cX1_mostOf 43 = .ok (.getfield 29, 3) := by decide +kernel
theorem dX1_mostOf_46 : decode cX1_mostOf 46 = .ok (.iconst 3, 1) := by decide +kernel
theorem dX1_mostOf_47 : decode cX1_mostOf 47 = .ok (.iload 4, 2) := by decide +kernel
theorem dX1_mostOf_49 : decode cX1_mostOf 49 = .ok (.isub, 1) := by decide +kernel
theorem dX1_mostOf_50 : decode cX1_mostOf 50 = .ok (.imul, 1) := by decide +kernel
theorem dX1_mostOf_51 : decode cX1_mostOf 51 = .ok (.isub, 1) := by decide +kernel
theorem dX1_mostOf_52 : decode cX1_mostOf 52 = .ok (.iadd, 1) := by decide +kernel
theorem dX1_mostOf_53 : decode cX1_mostOf 53 = .ok (.istore_n 2, 1) := by decide +kernel
theorem dX1_mostOf_54 : decode cX1_mostOf 54 = .ok (.iinc 3 1, 3) := by decide +kernel
theorem dX1_mostOf_57 : decode cX1_mostOf 57 = .ok (.goto (-53), 3) := by decide +kernel
theorem dX1_mostOf_60 : decode cX1_mostOf 60 = .ok (.iload_n 2, 1) := by decide +kernel
theorem dX1_mostOf_61 : decode cX1_mostOf 61 = .ok (.ireturn, 1) := by decide +kernel
theorem dX1_leastOf_0 : decode cX1_leastOf 0 = .ok (.iconst 0, 1) := by decide +kernel
theorem dX1_leastOf_1 : decode cX1_leastOf 1 = .ok (.istore_n 2, 1) := by decide +kernel
theorem dX1_leastOf_2 : decode cX1_leastOf 2 = .ok (.iconst 0, 1) := by decide +kernel
theorem dX1_leastOf_3 : decode cX1_leastOf 3 = .ok (.istore_n 3, 1) := by decide +kernel
theorem dX1_leastOf_4 : decode cX1_leastOf 4 = .ok (.iload_n 3, 1) := by decide +kernel
theorem dX1_leastOf_5 : decode cX1_leastOf 5 = .ok (.aload_n 0, 1) := by decide +kernel
theorem dX1_leastOf_6 : decode cX1_leastOf 6 = .ok (.getfield 11, 3) := by decide +kernel
theorem dX1_leastOf_9 : decode cX1_leastOf 9 = .ok (.invokevirtual 71, 3) := by decide +kernel
theorem dX1_leastOf_12 : decode cX1_leastOf 12 = .ok (.if_icmp .ge 45, 3) := by decide +kernel
theorem dX1_leastOf_15 : decode cX1_leastOf 15 = .ok (.aload_n 0, 1) := by decide +kernel
theorem dX1_leastOf_16 : decode cX1_leastOf 16 = .ok (.getfield 15, 3) := by decide +kernel
theorem dX1_leastOf_19 : decode cX1_leastOf 19 = .ok (.iload_n 3, 1) := by decide +kernel
theorem dX1_leastOf_20 : decode cX1_leastOf 20 = .ok (.iaload, 1) := by decide +kernel
theorem dX1_leastOf_21 : decode cX1_leastOf 21 = .ok (.iload_n 1, 1) := by decide +kernel
theorem dX1_leastOf_22 : decode cX1_leastOf 22 = .ok (.iand, 1) := by decide +kernel
theorem dX1_leastOf_23 : decode cX1_leastOf 23 = .ok (.invokestatic 46, 3) := by decide +kernel
theorem dX1_leastOf_26 : decode cX1_leastOf 26 = .ok (.istore 4, 2) := by decide +kernel
theorem dX1_leastOf_28 : decode cX1_leastOf 28 = .ok (.iload_n 2, 1) := by decide +kernel
theorem dX1_leastOf_29 : decode cX1_leastOf 29 = .ok (.iload 4, 2) := by decide +kernel
theorem dX1_leastOf_31 : decode cX1_leastOf 31 = .ok (.iconst 3, 1) := by decide +kernel
theorem dX1_leastOf_32 : decode cX1_leastOf 32 = .ok (.if_icmp .ne 10, 3) := by decide +kernel
theorem dX1_leastOf_35 : decode cX1_leastOf 35 = .ok (.aload_n 0, 1) := by decide +kernel
theorem dX1_leastOf_36 : decode cX1_leastOf 36 = .ok (.getfield 25, 3) := by decide +kernel
theorem dX1_leastOf_39 : decode cX1_leastOf 39 = .ok (.goto 10, 3) := by decide +kernel
theorem dX1_leastOf_42 : decode cX1_leastOf 42 = .ok (.aload_n 0, 1) := by decide +kernel
theorem dX1_leastOf_43 : decode cX1_leastOf 43 = .ok (.getfield 29, 3) := by decide +kernel
theorem dX1_leastOf_46 : decode cX1_leastOf 46 = .ok (.iload 4, 2) := by decide +kernel
theorem dX1_leastOf_48 : decode cX1_leastOf 48 = .ok (.imul, 1) := by decide +kernel
theorem dX1_leastOf_49 : decode cX1_leastOf 49 = .ok (.iadd, 1) := by decide +kernel
theorem dX1_leastOf_50 : decode cX1_leastOf 50 = .ok (.istore_n 2, 1) := by decide +kernel
theorem dX1_leastOf_51 : decode cX1_leastOf 51 = .ok (.iinc 3 1, 3) := by decide +kernel
theorem dX1_leastOf_54 : decode cX1_leastOf 54 = .ok (.goto (-50), 3) := by decide +kernel
theorem dX1_leastOf_57 : decode cX1_leastOf 57 = .ok (.iload_n 2, 1) := by decide +kernel
theorem dX1_leastOf_58 : decode cX1_leastOf 58 = .ok (.ireturn, 1) := by decide +kernel
theorem dX2_init_0 : decode cX2_init 0 = .ok (.aload_n 0, 1) := by decide +kernel
theorem dX2_init_1 : decode cX2_init 1 = .ok (.invokespecial 5, 3) := by decide +kernel
theorem dX2_init_4 : decode cX2_init 4 = .ok (.aload_n 0, 1) := by decide +kernel
theorem dX2_init_5 : decode cX2_init 5 = .ok (.aload_n 1, 1) := by decide +kernel
theorem dX2_init_6 : decode cX2_init 6 = .ok (.putfield 11, 3) := by decide +kernel
theorem dX2_init_9 : decode cX2_init 9 = .ok (.aload_n 0, 1) := by decide +kernel
theorem dX2_init_10 : decode cX2_init 10 = .ok (.bipush 36, 2) := by decide +kernel
theorem dX2_init_12 : decode cX2_init 12 = .ok (.newarray .int, 2) := by decide +kernel
theorem dX2_init_14 : decode cX2_init 14 = .ok (.putfield 15, 3) := by decide +kernel
theorem dX2_init_17 : decode cX2_init 17 = .ok (.aload_n 0, 1) := by decide +kernel
theorem dX2_init_18 : decode cX2_init 18 = .ok (.bipush 36, 2) := by decide +kernel
theorem dX2_init_20 : decode cX2_init 20 = .ok (.newarray .int, 2) := by decide +kernel
theorem dX2_init_22 : decode cX2_init 22 = .ok (.putfield 19, 3) := by decide +kernel
theorem dX2_init_25 : decode cX2_init 25 = .ok (.aload_n 0, 1) := by decide +kernel
theorem dX2_init_26 : decode cX2_init 26 = .ok (.bipush 10, 2) := by decide +kernel
theorem dX2_init_28 : decode cX2_init 28 = .ok (.newarray .int, 2) := by decide +kernel
theorem dX2_init_30 : decode cX2_init 30 = .ok (.putfield 22, 3) := by decide +kernel
theorem dX2_init_33 : decode cX2_init 33 = .ok (.aload_n 0, 1) := by decide +kernel
theorem dX2_init_34 : decode cX2_init 34 = .ok (.bipush 22, 2) := by decide +kernel
theorem dX2_init_36 : decode cX2_init 36 = .ok (.newarray .int, 2) := by decide +kernel
theorem dX2_init_38 : decode cX2_init 38 = .ok (.putfield 25, 3) := by decide +kernel
theorem dX2_init_41 : decode cX2_init 41 = .ok (.aload_n 0, 1) := by decide +kernel
theorem dX2_init_42 : decode cX2_init 42 = .ok (.bipush 22, 2) := by decide +kernel
theorem dX2_init_44 : decode cX2_init 44 = .ok (.newarray .int, 2) := by decide +kernel
theorem dX2_init_46 : decode cX2_init 46 = .ok (.putfield 28, 3) := by decide +kernel
theorem dX2_init_49 : decode cX2_init 49 = .ok (.return_, 1) := by decide +kernel
theorem dX2_forgetRow_0 : decode cX2_forgetRow 0 = .ok (.aload_n 0, 1) := by decide +kernel
theorem dX2_forgetRow_1 : decode cX2_forgetRow 1 = .ok (.iconst 0, 1) := by decide +kernel
theorem dX2_forgetRow_2 : decode cX2_forgetRow 2 = .ok (.putfield 31, 3) := by decide +kernel
theorem dX2_forgetRow_5 : decode cX2_forgetRow 5 = .ok (.return_, 1) := by decide +kernel
theorem dX2_given_0 : decode cX2_given 0 = .ok (.aload_n 0, 1) := by decide +kernel
theorem dX2_given_1 : decode cX2_given 1 = .ok (.getfield 15, 3) := by decide +kernel
theorem dX2_given_4 : decode cX2_given 4 = .ok (.iload_n 1, 1) := by decide +kernel
theorem dX2_given_5 : decode cX2_given 5 = .ok (.iaload, 1) := by decide +kernel
theorem dX2_given_6 : decode cX2_given 6 = .ok (.ireturn, 1) := by decide +kernel
theorem dX2_givenAt_0 : decode cX2_givenAt 0 = .ok (.iconst 0, 1) := by decide +kernel
theorem dX2_givenAt_1 : decode cX2_givenAt 1 = .ok (.istore_n 2, 1) := by decide +kernel
theorem dX2_givenAt_2 : decode cX2_givenAt 2 = .ok (.iconst 0, 1) := by decide +kernel
theorem dX2_givenAt_3 : decode cX2_givenAt 3 = .ok (.istore_n 3, 1) := by decide +kernel
theorem dX2_givenAt_4 : decode cX2_givenAt 4 = .ok (.iload_n 3, 1) := by decide +kernel
theorem dX2_givenAt_5 : decode cX2_givenAt 5 = .ok (.aload_n 0, 1) := by decide +kernel
theorem dX2_givenAt_6 : decode cX2_givenAt 6 = .ok (.getfield 35, 3) := by decide +kernel
theorem dX2_givenAt_9 : decode cX2_givenAt 9 = .ok (.if_icmp .ge 30, 3) := by decide +kernel
theorem dX2_givenAt_12 : decode cX2_givenAt 12 = .ok (.aload_n 0, 1) := by decide +kernel
theorem dX2_givenAt_13 : decode cX2_givenAt 13 = .ok (.getfield 11, 3) := by decide +kernel
theorem dX2_givenAt_16 : decode cX2_givenAt 16 = .ok (.iload_n 3, 1) := by decide +kernel
theorem dX2_givenAt_17 : decode cX2_givenAt 17 = .ok (.invokevirtual 39, 3) := by decide +kernel
theorem dX2_givenAt_20 : decode cX2_givenAt 20 = .ok (.iload_n 1, 1) := by decide +kernel
theorem dX2_givenAt_21 : decode cX2_givenAt 21 = .ok (.if_icmp .ne 12, 3) := by decide +kernel
theorem dX2_givenAt_24 : decode cX2_givenAt 24 = .ok (.iload_n 2, 1) := by decide +kernel
theorem dX2_givenAt_25 : decode cX2_givenAt 25 = .ok (.aload_n 0, 1) := by decide +kernel
theorem dX2_givenAt_26 : decode cX2_givenAt 26 = .ok (.getfield 15, 3) := by decide +kernel
theorem dX2_givenAt_29 : decode cX2_givenAt 29 = .ok (.iload_n 3, 1) := by decide +kernel
theorem dX2_givenAt_30 : decode cX2_givenAt 30 = .ok (.iaload, 1) := by decide +kernel
theorem dX2_givenAt_31 : decode cX2_givenAt 31 = .ok (.iadd, 1) := by decide +kernel
theorem dX2_givenAt_32 : decode cX2_givenAt 32 = .ok (.istore_n 2, 1) := by decide +kernel
theorem dX2_givenAt_33 : decode cX2_givenAt 33 = .ok (.iinc 3 1, 3) := by decide +kernel
theorem dX2_givenAt_36 : decode cX2_givenAt 36 = .ok (.goto (-32), 3) := by decide +kernel
theorem dX2_givenAt_39 : decode cX2_givenAt 39 = .ok (.iload_n 2, 1) := by decide +kernel
theorem dX2_givenAt_40 : decode cX2_givenAt 40 = .ok (.ireturn, 1) := by decide +kernel
theorem dX2_findRow_0 : decode cX2_findRow 0 = .ok (.aload_n 0, 1) := by decide +kernel
theorem dX2_findRow_1 : decode cX2_findRow 1 = .ok (.getfield 31, 3) := by decide +kernel
theorem dX2_findRow_4 : decode cX2_findRow 4 = .ok (.ifCond .ne 46, 3) := by decide +kernel
theorem dX2_findRow_7 : decode cX2_findRow 7 = .ok (.aload_n 0, 1) := by decide +kernel
theorem dX2_findRow_8 : decode cX2_findRow 8 = .ok (.aload_n 0, 1) := by decide +kernel
theorem dX2_findRow_9 : decode cX2_findRow 9 = .ok (.iload_n 1, 1) := by decide +kernel
theorem dX2_findRow_10 : decode cX2_findRow 10 = .ok (.iload_n 2, 1) := by decide +kernel
theorem dX2_findRow_11 : decode cX2_findRow 11 = .ok (.invokevirtual 45, 3) := by decide +kernel
theorem dX2_findRow_14 : decode cX2_findRow 14 = .ok (.putfield 49, 3) := by decide +kernel
theorem dX2_findRow_17 : decode cX2_findRow 17 = .ok (.iconst 0, 1) := by decide +kernel
theorem dX2_findRow_18 : decode cX2_findRow 18 = .ok (.istore_n 3, 1) := by decide +kernel
theorem dX2_findRow_19 : decode cX2_findRow 19 = .ok (.iload_n 3, 1) := by decide +kernel
theorem dX2_findRow_20 : decode cX2_findRow 20 = .ok (.aload_n 0, 1) := by decide +kernel
theorem dX2_findRow_21 : decode cX2_findRow 21 = .ok (.getfield 35, 3) := by decide +kernel
theorem dX2_findRow_24 : decode cX2_findRow 24 = .ok (.if_icmp .ge 21, 3) := by decide +kernel
theorem dX2_findRow_27 : decode cX2_findRow 27 = .ok (.aload_n 0, 1) := by decide +kernel
theorem dX2_findRow_28 : decode cX2_findRow 28 = .ok (.getfield 49, 3) := by decide +kernel
theorem dX2_findRow_31 : decode cX2_findRow 31 = .ok (.ifCond .eq 14, 3) := by decide +kernel
theorem dX2_findRow_34 : decode cX2_findRow 34 = .ok (.aload_n 0, 1) := by decide +kernel
theorem dX2_findRow_35 : decode cX2_findRow 35 = .ok (.iload_n 3, 1) := by decide +kernel
theorem dX2_findRow_36 : decode cX2_findRow 36 = .ok (.invokevirtual 52, 3) := by decide +kernel
theorem dX2_findRow_39 : decode cX2_findRow 39 = .ok (.iinc 3 1, 3) := by decide +kernel
theorem dX2_findRow_42 : decode cX2_findRow 42 = .ok (.goto (-23), 3) := by decide +kernel
theorem dX2_findRow_45 : decode cX2_findRow 45 = .ok (.aload_n 0, 1) := by decide +kernel
theorem dX2_findRow_46 : decode cX2_findRow 46 = .ok (.iconst 1, 1) := by decide +kernel
theorem dX2_findRow_47 : decode cX2_findRow 47 = .ok (.putfield 31, 3) := by decide +kernel
theorem dX2_findRow_50 : decode cX2_findRow 50 = .ok (.aload_n 0, 1) := by decide +kernel
theorem dX2_findRow_51 : decode cX2_findRow 51 = .ok (.getfield 49, 3) := by decide +kernel
theorem dX2_findRow_54 : decode cX2_findRow 54 = .ok (.ireturn, 1) := by decide +kernel
theorem dX2_findAny_0 : decode cX2_findAny 0 = .ok (.aload_n 0, 1) := by decide +kernel
theorem dX2_findAny_1 : decode cX2_findAny 1 = .ok (.iconst 0, 1) := by decide +kernel
theorem dX2_findAny_2 : decode cX2_findAny 2 = .ok (.putfield 31, 3) := by decide +kernel
theorem dX2_findAny_5 : decode cX2_findAny 5 = .ok (.aload_n 0, 1) := by decide +kernel
theorem dX2_findAny_6 : decode cX2_findAny 6 = .ok (.iload_n 1, 1) := by decide +kernel
theorem dX2_findAny_7 : decode cX2_findAny 7 = .ok (.iload_n 2, 1) := by decide +kernel
theorem dX2_findAny_8 : decode cX2_findAny 8 = .ok (.invokevirtual 56, 3) := by decide +kernel
theorem dX2_findAny_11 : decode cX2_findAny 11 = .ok (.aload_n 0, 1) := by decide +kernel
theorem dX2_findAny_12 : decode cX2_findAny 12 = .ok (.iload_n 1, 1) := by decide +kernel
theorem dX2_findAny_13 : decode cX2_findAny 13 = .ok (.invokevirtual 60, 3) := by decide +kernel
theorem dX2_findAny_16 : decode cX2_findAny 16 = .ok (.iconst 0, 1) := by decide +kernel
theorem dX2_findAny_17 : decode cX2_findAny 17 = .ok (.istore_n 3, 1) := by decide +kernel
theorem dX2_findAny_18 : decode cX2_findAny 18 = .ok (.iload_n 3, 1) := by decide +kernel
theorem dX2_findAny_19 : decode cX2_findAny 19 = .ok (.bipush 10, 2) := by decide +kernel
theorem dX2_findAny_21 : decode cX2_findAny 21 = .ok (.if_icmp .ge 52, 3) := by decide +kernel
theorem dX2_findAny_24 : decode cX2_findAny 24 = .ok (.iconst 0, 1) := by decide +kernel
theorem dX2_findAny_25 : decode cX2_findAny 25 = .ok (.istore 4, 2) := by decide +kernel
theorem dX2_findAny_27 : decode cX2_findAny 27 = .ok (.iload 4, 2) := by decide +kernel
theorem dX2_findAny_29 : decode cX2_findAny 29 = .ok (.bipush 10, 2) := by decide +kernel
theorem dX2_findAny_31 : decode cX2_findAny 31 = .ok (.if_icmp .ge 25, 3) := by decide +kernel
theorem dX2_findAny_34 : decode cX2_findAny 34 = .ok (.aload_n 0, 1) := by decide +kernel
theorem dX2_findAny_35 : decode cX2_findAny 35 = .ok (.getfield 22, 3) := by decide +kernel
theorem dX2_findAny_38 : decode cX2_findAny 38 = .ok (.iload_n 3, 1) := by decide +kernel
theorem dX2_findAny_39 : decode cX2_findAny 39 = .ok (.iaload, 1) := by decide +kernel
theorem dX2_findAny_40 : decode cX2_findAny 40 = .ok (.ifCond .le 16, 3) := by decide +kernel
theorem dX2_findAny_43 : decode cX2_findAny 43 = .ok (.aload_n 0, 1) := by decide +kernel
theorem dX2_findAny_44 : decode cX2_findAny 44 = .ok (.iload_n 3, 1) := by decide +kernel
theorem dX2_findAny_45 : decode cX2_findAny 45 = .ok (.iload 4, 2) := by decide +kernel
theorem dX2_findAny_47 : decode cX2_findAny 47 = .ok (.invokevirtual 63, 3) := by decide +kernel
theorem dX2_findAny_50 : decode cX2_findAny 50 = .ok (.iinc 4 1, 3) := by decide +kernel
theorem dX2_findAny_53 : decode cX2_findAny 53 = .ok (.goto (-26), 3) := by decide +kernel
theorem dX2_findAny_56 : decode cX2_findAny 56 = .ok (.aload_n 0, 1) := by decide +kernel
theorem dX2_findAny_57 : decode cX2_findAny 57 = .ok (.getfield 22, 3) := by decide +kernel
theorem dX2_findAny_60 : decode cX2_findAny 60 = .ok (.iload_n 3, 1) := by decide +kernel
theorem dX2_findAny_61 : decode cX2_findAny 61 = .ok (.iaload, 1) := by decide +kernel
theorem dX2_findAny_62 : decode cX2_findAny 62 = .ok (.ifCond .le 5, 3) := by decide +kernel
theorem dX2_findAny_65 : decode cX2_findAny 65 = .ok (.iconst 0, 1) := by decide +kernel
theorem dX2_findAny_66 : decode cX2_findAny 66 = .ok (.ireturn, 1) := by decide +kernel
theorem dX2_findAny_67 : decode cX2_findAny 67 = .ok (.iinc 3 1, 3) := by decide +kernel
theorem dX2_findAny_70 : decode cX2_findAny 70 = .ok (.goto (-52), 3) := by decide +kernel
theorem dX2_findAny_73 : decode cX2_findAny 73 = .ok (.iconst 1, 1) := by decide +kernel
theorem dX2_findAny_74 : decode cX2_findAny 74 = .ok (.ireturn, 1) := by decide +kernel
theorem dX2_begin_0 : decode cX2_begin 0 = .ok (.aload_n 0, 1) := by decide +kernel
theorem dX2_begin_1 : decode cX2_begin 1 = .ok (.aload_n 0, 1) := by decide +kernel
theorem dX2_begin_2 : decode cX2_begin 2 = .ok (.getfield 11, 3) := by decide +kernel
theorem dX2_begin_5 : decode cX2_begin 5 = .ok (.invokevirtual 66, 3) := by decide +kernel
theorem dX2_begin_8 : decode cX2_begin 8 = .ok (.putfield 35, 3) := by decide +kernel
theorem dX2_begin_11 : decode cX2_begin 11 = .ok (.aload_n 0, 1) := by decide +kernel
theorem dX2_begin_12 : decode cX2_begin 12 = .ok (.iload_n 2, 1) := by decide +kernel
theorem dX2_begin_13 : decode cX2_begin 13 = .ok (.putfield 70, 3) := by decide +kernel
theorem dX2_begin_16 : decode cX2_begin 16 = .ok (.aload_n 0, 1) := by decide +kernel
theorem dX2_begin_17 : decode cX2_begin 17 = .ok (.iconst 0, 1) := by decide +kernel
theorem dX2_begin_18 : decode cX2_begin 18 = .ok (.putfield 73, 3) := by decide +kernel
theorem dX2_begin_21 : decode cX2_begin 21 = .ok (.iconst 0, 1) := by decide +kernel
theorem dX2_begin_22 : decode cX2_begin 22 = .ok (.istore_n 3, 1) := by decide +kernel
theorem dX2_begin_23 : decode cX2_begin 23 = .ok (.iload_n 3, 1) := by decide +kernel
theorem dX2_begin_24 : decode cX2_begin 24 = .ok (.aload_n 0, 1) := by decide +kernel
theorem dX2_begin_25 : decode cX2_begin 25 = .ok (.getfield 35, 3) := by decide +kernel
theorem dX2_begin_28 : decode cX2_begin 28 = .ok (.if_icmp .ge 66, 3) := by decide +kernel
theorem dX2_begin_31 : decode cX2_begin 31 = .ok (.aload_n 0, 1) := by decide +kernel
theorem dX2_begin_32 : decode cX2_begin 32 = .ok (.getfield 11, 3) := by decide +kernel
theorem dX2_begin_35 : decode cX2_begin 35 = .ok (.iload_n 3, 1) := by decide +kernel
theorem dX2_begin_36 : decode cX2_begin 36 = .ok (.invokevirtual 39, 3) := by decide +kernel
theorem dX2_begin_39 : decode cX2_begin 39 = .ok (.istore 4, 2) := by decide +kernel
theorem dX2_begin_41 : decode cX2_begin 41 = .ok (.aload_n 0, 1) := by decide +kernel
theorem dX2_begin_42 : decode cX2_begin 42 = .ok (.getfield 19, 3) := by decide +kernel
theorem dX2_begin_45 : decode cX2_begin 45 = .ok (.iload_n 3, 1) := by decide +kernel
theorem dX2_begin_46 : decode cX2_begin 46 = .ok (.aload_n 0, 1) := by decide +kernel
theorem dX2_begin_47 : decode cX2_begin 47 = .ok (.getfield 11, 3) := by decide +kernel
theorem dX2_begin_50 : decode cX2_begin 50 = .ok (.iload 4, 2) := by decide +kernel
theorem dX2_begin_52 : decode cX2_begin 52 = .ok (.invokevirtual 76, 3) := by decide +kernel
theorem dX2_begin_55 : decode cX2_begin 55 = .ok (.ifCond .eq 8, 3) := by decide +kernel
theorem dX2_begin_58 : decode cX2_begin 58 = .ok (.iload 4, 2) := by decide +kernel
theorem dX2_begin_60 : decode cX2_begin 60 = .ok (.goto 5, 3) := by decide +kernel
theorem dX2_begin_63 : decode cX2_begin 63 = .ok (.bipush 9, 2) := by decide +kernel
theorem dX2_begin_65 : decode cX2_begin 65 = .ok (.iastore, 1) := by decide +kernel
theorem dX2_begin_66 : decode cX2_begin 66 = .ok (.aload_n 0, 1) := by decide +kernel
theorem dX2_begin_67 : decode cX2_begin 67 = .ok (.getfield 15, 3) := by decide +kernel
theorem dX2_begin_70 : decode cX2_begin 70 = .ok (.iload_n 3, 1) := by decide +kernel
theorem dX2_begin_71 : decode cX2_begin 71 = .ok (.iload_n 3, 1) := by decide +kernel
theorem dX2_begin_72 : decode cX2_begin 72 = .ok (.iconst 3, 1) := by decide +kernel
theorem dX2_begin_73 : decode cX2_begin 73 = .ok (.irem, 1) := by decide +kernel
theorem dX2_begin_74 : decode cX2_begin 74 = .ok (.iconst 2, 1) := by decide +kernel
theorem dX2_begin_75 : decode cX2_begin 75 = .ok (.if_icmp .ne 11, 3) := by decide +kernel
theorem dX2_begin_78 : decode cX2_begin 78 = .ok (.iload_n 1, 1) := by decide +kernel
theorem dX2_begin_79 : decode cX2_begin 79 = .ok (.iconst 2, 1) := by decide +kernel
theorem dX2_begin_80 : decode cX2_begin 80 = .ok (.iload_n 2, 1) := by decide +kernel
theorem dX2_begin_81 : decode cX2_begin 81 = .ok (.imul, 1) := by decide +kernel
theorem dX2_begin_82 : decode cX2_begin 82 = .ok (.isub, 1) := by decide +kernel
theorem dX2_begin_83 : decode cX2_begin 83 = .ok (.goto 4, 3) := by decide +kernel
theorem dX2_begin_86 : decode cX2_begin 86 = .ok (.iload_n 2, 1) := by decide +kernel
theorem dX2_begin_87 : decode cX2_begin 87 = .ok (.iastore, 1) := by decide +kernel
theorem dX2_begin_88 : decode cX2_begin 88 = .ok (.iinc 3 1, 3) := by decide +kernel
theorem dX2_begin_91 : decode cX2_begin 91 = .ok (.goto (-68), 3) := by decide +kernel
theorem dX2_begin_94 : decode cX2_begin 94 = .ok (.return_, 1) := by decide +kernel
theorem dX2_weigh_0 : decode cX2_weigh 0 = .ok (.aload_n 0, 1) := by decide +kernel
theorem dX2_weigh_1 : decode cX2_weigh 1 = .ok (.getfield 22, 3) := by decide +kernel
theorem dX2_weigh_4 : decode cX2_weigh 4 = .ok (.iconst 0, 1) := by decide +kernel
theorem dX2_weigh_5 : decode cX2_weigh 5 = .ok (.invokestatic 80, 3) := by decide +kernel
theorem dX2_weigh_8 : decode cX2_weigh 8 = .ok (.iconst 0, 1) := by decide +kernel
theorem dX2_weigh_9 : decode cX2_weigh 9 = .ok (.istore_n 2, 1) := by decide +kernel
theorem dX2_weigh_10 : decode cX2_weigh 10 = .ok (.iload_n 2, 1) := by decide +kernel
theorem dX2_weigh_11 : decode cX2_weigh 11 = .ok (.aload_n 0, 1) := by decide +kernel
theorem dX2_weigh_12 : decode cX2_weigh 12 = .ok (.getfield 11, 3) := by decide +kernel
theorem dX2_weigh_15 : decode cX2_weigh 15 = .ok (.invokevirtual 86, 3) := by decide +kernel
theorem dX2_weigh_18 : decode cX2_weigh 18 = .ok (.if_icmp .ge 39, 3) := by decide +kernel
theorem dX2_weigh_21 : decode cX2_weigh 21 = .ok (.aload_n 0, 1) := by decide +kernel
theorem dX2_weigh_22 : decode cX2_weigh 22 = .ok (.getfield 22, 3) := by decide +kernel
theorem dX2_weigh_25 : decode cX2_weigh 25 = .ok (.iload_n 2, 1) := by decide +kernel
theorem dX2_weigh_26 : decode cX2_weigh 26 = .ok (.aload_n 0, 1) := by decide +kernel
theorem dX2_weigh_27 : decode cX2_weigh 27 = .ok (.getfield 11, 3) := by decide +kernel
theorem dX2_weigh_30 : decode cX2_weigh 30 = .ok (.iload_n 2, 1) := by decide +kernel
theorem dX2_weigh_31 : decode cX2_weigh 31 = .ok (.invokevirtual 76, 3) := by decide +kernel
theorem dX2_weigh_34 : decode cX2_weigh 34 = .ok (.ifCond .eq 15, 3) := by decide +kernel
theorem dX2_weigh_37 : decode cX2_weigh 37 = .ok (.aload_n 0, 1) := by decide +kernel
theorem dX2_weigh_38 : decode cX2_weigh 38 = .ok (.getfield 11, 3) := by decide +kernel
theorem dX2_weigh_41 : decode cX2_weigh 41 = .ok (.iload_n 2, 1) := by decide +kernel
theorem dX2_weigh_42 : decode cX2_weigh 42 = .ok (.invokevirtual 89, 3) := by decide +kernel
theorem dX2_weigh_45 : decode cX2_weigh 45 = .ok (.ineg, 1) := by decide +kernel
theorem dX2_weigh_46 : decode cX2_weigh 46 = .ok (.goto 4, 3) := by decide +kernel
theorem dX2_weigh_49 : decode cX2_weigh 49 = .ok (.iconst 0, 1) := by decide +kernel
theorem dX2_weigh_50 : decode cX2_weigh 50 = .ok (.iastore, 1) := by decide +kernel
theorem dX2_weigh_51 : decode cX2_weigh 51 = .ok (.iinc 2 1, 3) := by decide +kernel
theorem dX2_weigh_54 : decode cX2_weigh 54 = .ok (.goto (-44), 3) := by decide +kernel
theorem dX2_weigh_57 : decode cX2_weigh 57 = .ok (.aload_n 0, 1) := by decide +kernel
theorem dX2_weigh_58 : decode cX2_weigh 58 = .ok (.getfield 22, 3) := by decide +kernel
theorem dX2_weigh_61 : decode cX2_weigh 61 = .ok (.bipush 9, 2) := by decide +kernel
theorem dX2_weigh_63 : decode cX2_weigh 63 = .ok (.aload_n 0, 1) := by decide +kernel
theorem dX2_weigh_64 : decode cX2_weigh 64 = .ok (.getfield 11, 3) := by decide +kernel
theorem dX2_weigh_67 : decode cX2_weigh 67 = .ok (.invokevirtual 92, 3) := by decide +kernel
theorem dX2_weigh_70 : decode cX2_weigh 70 = .ok (.iload_n 1, 1) := by decide +kernel
theorem dX2_weigh_71 : decode cX2_weigh 71 = .ok (.aload_n 0, 1) := by decide +kernel
theorem dX2_weigh_72 : decode cX2_weigh 72 = .ok (.getfield 11, 3) := by decide +kernel
theorem dX2_weigh_75 : decode cX2_weigh 75 = .ok (.invokevirtual 95, 3) := by decide +kernel
theorem dX2_weigh_78 : decode cX2_weigh 78 = .ok (.imul, 1) := by decide +kernel
theorem dX2_weigh_79 : decode cX2_weigh 79 = .ok (.isub, 1) := by decide +kernel
theorem dX2_weigh_80 : decode cX2_weigh 80 = .ok (.iastore, 1) := by decide +kernel
theorem dX2_weigh_81 : decode cX2_weigh 81 = .ok (.iconst 0, 1) := by decide +kernel
theorem dX2_weigh_82 : decode cX2_weigh 82 = .ok (.istore_n 2, 1) := by decide +kernel
theorem dX2_weigh_83 : decode cX2_weigh 83 = .ok (.iload_n 2, 1) := by decide +kernel
theorem dX2_weigh_84 : decode cX2_weigh 84 = .ok (.aload_n 0, 1) := by decide +kernel
theorem dX2_weigh_85 : decode cX2_weigh 85 = .ok (.getfield 35, 3) := by decide +kernel
theorem dX2_weigh_88 : decode cX2_weigh 88 = .ok (.if_icmp .ge 29, 3) := by decide +kernel
theorem dX2_weigh_91 : decode cX2_weigh 91 = .ok (.aload_n 0, 1) := by decide +kernel
theorem dX2_weigh_92 : decode cX2_weigh 92 = .ok (.getfield 22, 3) := by decide +kernel
theorem dX2_weigh_95 : decode cX2_weigh 95 = .ok (.aload_n 0, 1) := by decide +kernel
theorem dX2_weigh_96 : decode cX2_weigh 96 = .ok (.getfield 19, 3) := by decide +kernel
theorem dX2_weigh_99 : decode cX2_weigh 99 = .ok (.iload_n 2, 1) := by decide +kernel
theorem dX2_weigh_100 : decode cX2_weigh 100 = .ok (.iaload, 1) := by decide +kernel
theorem dX2_weigh_101 : decode cX2_weigh 101 = .ok (.dup2, 1) := by decide +kernel
theorem dX2_weigh_102 : decode cX2_weigh 102 = .ok (.iaload, 1) := by decide +kernel
theorem dX2_weigh_103 : decode cX2_weigh 103 = .ok (.aload_n 0, 1) := by decide +kernel
theorem dX2_weigh_104 : decode cX2_weigh 104 = .ok (.getfield 15, 3) := by decide +kernel
theorem dX2_weigh_107 : decode cX2_weigh 107 = .ok (.iload_n 2, 1) := by decide +kernel
theorem dX2_weigh_108 : decode cX2_weigh 108 = .ok (.iaload, 1) := by decide +kernel
theorem dX2_weigh_109 : decode cX2_weigh 109 = .ok (.iadd, 1) := by decide +kernel
theorem dX2_weigh_110 : decode cX2_weigh 110 = .ok (.iastore, 1) := by decide +kernel
theorem dX2_weigh_111 : decode cX2_weigh 111 = .ok (.iinc 2 1, 3) := by decide +kernel
theorem dX2_weigh_114 : decode cX2_weigh 114 = .ok (.goto (-31), 3) := by decide +kernel
theorem dX2_weigh_117 : decode cX2_weigh 117 = .ok (.return_, 1) := by decide +kernel
theorem dX2_level_0 : decode cX2_level 0 = .ok (.iconst 0, 1) := by decide +kernel
theorem dX2_level_1 : decode cX2_level 1 = .ok (.istore_n 3, 1) := by decide +kernel
theorem dX2_level_2 : decode cX2_level 2 = .ok (.iload_n 3, 1) := by decide +kernel
theorem dX2_level_3 : decode cX2_level 3 = .ok (.ldc 98, 2) := by decide +kernel
theorem dX2_level_5 : decode cX2_level 5 = .ok (.if_icmp .ge 79, 3) := by decide +kernel
theorem dX2_level_8 : decode cX2_level 8 = .ok (.aload_n 0, 1) := by decide +kernel
theorem dX2_level_9 : decode cX2_level 9 = .ok (.getfield 22, 3) := by decide +kernel
theorem dX2_level_12 : decode cX2_level 12 = .ok (.iload_n 1, 1) := by decide +kernel
theorem dX2_level_13 : decode cX2_level 13 = .ok (.iaload, 1) := by decide +kernel
theorem dX2_level_14 : decode cX2_level 14 = .ok (.ifCond .le 70, 3) := by decide +kernel
theorem dX2_level_17 : decode cX2_level 17 = .ok (.aload_n 0, 1) := by decide +kernel
theorem dX2_level_18 : decode cX2_level 18 = .ok (.getfield 22, 3) := by decide +kernel
theorem dX2_level_21 : decode cX2_level 21 = .ok (.iload_n 2, 1) := by decide +kernel
theorem dX2_level_22 : decode cX2_level 22 = .ok (.iaload, 1) := by decide +kernel
theorem dX2_level_23 : decode cX2_level 23 = .ok (.ifCond .ge 61, 3) := by decide +kernel
theorem dX2_level_26 : decode cX2_level 26 = .ok (.aload_n 0, 1) := by decide +kernel
theorem dX2_level_27 : decode cX2_level 27 = .ok (.iload_n 1, 1) := by decide +kernel
theorem dX2_level_28 : decode cX2_level 28 = .ok (.iload_n 2, 1) := by decide +kernel
theorem dX2_level_29 : decode cX2_level 29 = .ok (.aload_n 0, 1) := by decide +kernel
theorem dX2_level_30 : decode cX2_level 30 = .ok (.getfield 22, 3) := by decide +kernel
theorem dX2_level_33 : decode cX2_level 33 = .ok (.iload_n 1, 1) := by decide +kernel
theorem dX2_level_34 : decode cX2_level 34 = .ok (.iaload, 1) := by decide +kernel
theorem dX2_level_35 : decode cX2_level 35 = .ok (.aload_n 0, 1) := by decide +kernel
theorem dX2_level_36 : decode cX2_level 36 = .ok (.getfield 22, 3) := by decide +kernel
theorem dX2_level_39 : decode cX2_level 39 = .ok (.iload_n 2, 1) := by decide +kernel
theorem dX2_level_40 : decode cX2_level 40 = .ok (.iaload, 1) := by decide +kernel
theorem dX2_level_41 : decode cX2_level 41 = .ok (.ineg, 1) := by decide +kernel
theorem dX2_level_42 : decode cX2_level 42 = .ok (.invokestatic 99, 3) := by decide +kernel
theorem dX2_level_45 : decode cX2_level 45 = .ok (.invokevirtual 105, 3) := by decide +kernel
theorem dX2_level_48 : decode cX2_level 48 = .ok (.istore 4, 2) := by decide +kernel
theorem dX2_level_50 : decode cX2_level 50 = .ok (.iload 4, 2) := by decide +kernel
theorem dX2_level_52 : decode cX2_level 52 = .ok (.ifCond .ne 4, 3) := by decide +kernel
theorem dX2_level_55 : decode cX2_level 55 = .ok (.return_, 1) := by decide +kernel
theorem dX2_level_56 : decode cX2_level 56 = .ok (.aload_n 0, 1) := by decide +kernel
theorem dX2_level_57 : decode cX2_level 57 = .ok (.getfield 22, 3) := by decide +kernel
theorem dX2_level_60 : decode cX2_level 60 = .ok (.iload_n 1, 1) := by decide +kernel
theorem dX2_level_61 : decode cX2_level 61 = .ok (.dup2, 1) := by decide +kernel
theorem dX2_level_62 : decode cX2_level 62 = .ok (.iaload, 1) := by decide +kernel
theorem dX2_level_63 : decode cX2_level 63 = .ok (.iload 4, 2) := by decide +kernel
theorem dX2_level_65 : decode cX2_level 65 = .ok (.isub, 1) := by decide +kernel
theorem dX2_level_66 : decode cX2_level 66 = .ok (.iastore, 1) := by decide +kernel
theorem dX2_level_67 : decode cX2_level 67 = .ok (.aload_n 0, 1) := by decide +kernel
theorem dX2_level_68 : decode cX2_level 68 = .ok (.getfield 22, 3) := by decide +kernel
theorem dX2_level_71 : decode cX2_level 71 = .ok (.iload_n 2, 1) := by decide +kernel
theorem dX2_level_72 : decode cX2_level 72 = .ok (.dup2, 1) := by decide +kernel
theorem dX2_level_73 : decode cX2_level 73 = .ok (.iaload, 1) := by decide +kernel
theorem dX2_level_74 : decode cX2_level 74 = .ok (.iload 4, 2) := by decide +kernel
theorem dX2_level_76 : decode cX2_level 76 = .ok (.iadd, 1) := by decide +kernel
theorem dX2_level_77 : decode cX2_level 77 = .ok (.iastore, 1) := by decide +kernel
theorem dX2_level_78 : decode cX2_level 78 = .ok (.iinc 3 1, 3) := by decide +kernel
theorem dX2_level_81 : decode cX2_level 81 = .ok (.goto (-79), 3) := by decide +kernel
theorem dX2_level_84 : decode cX2_level 84 = .ok (.return_, 1) := by decide +kernel
theorem dX2_sink_0 : decode cX2_sink 0 = .ok (.aload_n 0, 1) := by decide +kernel
theorem dX2_sink_1 : decode cX2_sink 1 = .ok (.iload_n 1, 1) := by decide +kernel
theorem dX2_sink_2 : decode cX2_sink 2 = .ok (.iconst 1, 1) := by decide +kernel
theorem dX2_sink_3 : decode cX2_sink 3 = .ok (.iadd, 1) := by decide +kernel
theorem dX2_sink_4 : decode cX2_sink 4 = .ok (.putfield 73, 3) := by decide +kernel
theorem dX2_sink_7 : decode cX2_sink 7 = .ok (.iconst 0, 1) := by decide +kernel
theorem dX2_sink_8 : decode cX2_sink 8 = .ok (.istore_n 2, 1) := by decide +kernel
theorem dX2_sink_9 : decode cX2_sink 9 = .ok (.iload_n 2, 1) := by decide +kernel
theorem dX2_sink_10 : decode cX2_sink 10 = .ok (.ldc 98, 2) := by decide +kernel
theorem dX2_sink_12 : decode cX2_sink 12 = .ok (.if_icmp .ge 65, 3) := by decide +kernel
theorem dX2_sink_15 : decode cX2_sink 15 = .ok (.aload_n 0, 1) := by decide +kernel
theorem dX2_sink_16 : decode cX2_sink 16 = .ok (.getfield 15, 3) := by decide +kernel
theorem dX2_sink_19 : decode cX2_sink 19 = .ok (.iload_n 1, 1) := by decide +kernel
theorem dX2_sink_20 : decode cX2_sink 20 = .ok (.iaload, 1) := by decide +kernel
theorem dX2_sink_21 : decode cX2_sink 21 = .ok (.aload_n 0, 1) := by decide +kernel
theorem dX2_sink_22 : decode cX2_sink 22 = .ok (.getfield 70, 3) := by decide +kernel
theorem dX2_sink_25 : decode cX2_sink 25 = .ok (.if_icmp .le 52, 3) := by decide +kernel
theorem dX2_sink_28 : decode cX2_sink 28 = .ok (.aload_n 0, 1) := by decide +kernel
theorem dX2_sink_29 : decode cX2_sink 29 = .ok (.bipush 10, 2) := by decide +kernel
theorem dX2_sink_31 : decode cX2_sink 31 = .ok (.iload_n 1, 1) := by decide +kernel
theorem dX2_sink_32 : decode cX2_sink 32 = .ok (.iconst 3, 1) := by decide +kernel
theorem dX2_sink_33 : decode cX2_sink 33 = .ok (.idiv, 1) := by decide +kernel
theorem dX2_sink_34 : decode cX2_sink 34 = .ok (.iadd, 1) := by decide +kernel
theorem dX2_sink_35 : decode cX2_sink 35 = .ok (.aload_n 0, 1) := by decide +kernel
theorem dX2_sink_36 : decode cX2_sink 36 = .ok (.getfield 19, 3) := by decide +kernel
theorem dX2_sink_39 : decode cX2_sink 39 = .ok (.iload_n 1, 1) := by decide +kernel
theorem dX2_sink_40 : decode cX2_sink 40 = .ok (.iaload, 1) := by decide +kernel
theorem dX2_sink_41 : decode cX2_sink 41 = .ok (.aload_n 0, 1) := by decide +kernel
theorem dX2_sink_42 : decode cX2_sink 42 = .ok (.getfield 15, 3) := by decide +kernel
theorem dX2_sink_45 : decode cX2_sink 45 = .ok (.iload_n 1, 1) := by decide +kernel
theorem dX2_sink_46 : decode cX2_sink 46 = .ok (.iaload, 1) := by decide +kernel
theorem dX2_sink_47 : decode cX2_sink 47 = .ok (.aload_n 0, 1) := by decide +kernel
theorem dX2_sink_48 : decode cX2_sink 48 = .ok (.getfield 70, 3) := by decide +kernel
theorem dX2_sink_51 : decode cX2_sink 51 = .ok (.isub, 1) := by decide +kernel
theorem dX2_sink_52 : decode cX2_sink 52 = .ok (.invokevirtual 105, 3) := by decide +kernel
theorem dX2_sink_55 : decode cX2_sink 55 = .ok (.istore_n 3, 1) := by decide +kernel
theorem dX2_sink_56 : decode cX2_sink 56 = .ok (.iload_n 3, 1) := by decide +kernel
theorem dX2_sink_57 : decode cX2_sink 57 = .ok (.ifCond .ne 4, 3) := by decide +kernel
theorem dX2_sink_60 : decode cX2_sink 60 = .ok (.return_, 1) := by decide +kernel
theorem dX2_sink_61 : decode cX2_sink 61 = .ok (.aload_n 0, 1) := by decide +kernel
theorem dX2_sink_62 : decode cX2_sink 62 = .ok (.getfield 15, 3) := by decide +kernel
theorem dX2_sink_65 : decode cX2_sink 65 = .ok (.iload_n 1, 1) := by decide +kernel
theorem dX2_sink_66 : decode cX2_sink 66 = .ok (.dup2, 1) := by decide +kernel
theorem dX2_sink_67 : decode cX2_sink 67 = .ok (.iaload, 1) := by decide +kernel
end
section
theorem dX2_sink_68 : decode cX2_sink 68 = .ok (.iload_n 3, 1) := by decide +kernel
theorem dX2_sink_69 : decode cX2_sink 69 = .ok (.isub, 1) := by decide +kernel
theorem dX2_sink_70 : decode cX2_sink 70 = .ok (.iastore, 1) := by decide +kernel
theorem dX2_sink_71 : decode cX2_sink 71 = .ok (.iinc 2 1, 3) := by decide +kernel
theorem dX2_sink_74 : decode cX2_sink 74 = .ok (.goto (-65), 3) := by decide +kernel
theorem dX2_sink_77 : decode cX2_sink 77 = .ok (.return_, 1) := by decide +kernel
theorem dX2_push_0 : decode cX2_push 0 = .ok (.aload_n 0, 1) := by decide +kernel
theorem dX2_push_1 : decode cX2_push 1 = .ok (.iload_n 1, 1) := by decide +kernel
theorem dX2_push_2 : decode cX2_push 2 = .ok (.iload_n 2, 1) := by decide +kernel
theorem dX2_push_3 : decode cX2_push 3 = .ok (.invokevirtual 109, 3) := by decide +kernel
theorem dX2_push_6 : decode cX2_push 6 = .ok (.ifCond .ne 5, 3) := by decide +kernel
theorem dX2_push_9 : decode cX2_push 9 = .ok (.iconst 0, 1) := by decide +kernel
theorem dX2_push_10 : decode cX2_push 10 = .ok (.ireturn, 1) := by decide +kernel
theorem dX2_push_11 : decode cX2_push 11 = .ok (.iload_n 3, 1) := by decide +kernel
theorem dX2_push_12 : decode cX2_push 12 = .ok (.istore 4, 2) := by decide +kernel
theorem dX2_push_14 : decode cX2_push 14 = .ok (.iload_n 2, 1) := by decide +kernel
theorem dX2_push_15 : decode cX2_push 15 = .ok (.istore 5, 2) := by decide +kernel
theorem dX2_push_17 : decode cX2_push 17 = .ok (.iconst 0, 1) := by decide +kernel
theorem dX2_push_18 : decode cX2_push 18 = .ok (.istore 6, 2) := by decide +kernel
theorem dX2_push_20 : decode cX2_push 20 = .ok (.iload 6, 2) := by decide +kernel
theorem dX2_push_22 : decode cX2_push 22 = .ok (.bipush 22, 2) := by decide +kernel
theorem dX2_push_24 : decode cX2_push 24 = .ok (.if_icmp .ge 54, 3) := by decide +kernel
theorem dX2_push_27 : decode cX2_push 27 = .ok (.iload 5, 2) := by decide +kernel
theorem dX2_push_29 : decode cX2_push 29 = .ok (.iload_n 1, 1) := by decide +kernel
theorem dX2_push_30 : decode cX2_push 30 = .ok (.if_icmp .eq 48, 3) := by decide +kernel
theorem dX2_push_33 : decode cX2_push 33 = .ok (.iload 5, 2) := by decide +kernel
theorem dX2_push_35 : decode cX2_push 35 = .ok (.bipush 10, 2) := by decide +kernel
theorem dX2_push_37 : decode cX2_push 37 = .ok (.if_icmp .lt 27, 3) := by decide +kernel
theorem dX2_push_40 : decode cX2_push 40 = .ok (.iload 4, 2) := by decide +kernel
theorem dX2_push_42 : decode cX2_push 42 = .ok (.aload_n 0, 1) := by decide +kernel
theorem dX2_push_43 : decode cX2_push 43 = .ok (.getfield 15, 3) := by decide +kernel
theorem dX2_push_46 : decode cX2_push 46 = .ok (.aload_n 0, 1) := by decide +kernel
theorem dX2_push_47 : decode cX2_push 47 = .ok (.getfield 25, 3) := by decide +kernel
theorem dX2_push_50 : decode cX2_push 50 = .ok (.iload 5, 2) := by decide +kernel
theorem dX2_push_52 : decode cX2_push 52 = .ok (.iaload, 1) := by decide +kernel
theorem dX2_push_53 : decode cX2_push 53 = .ok (.iaload, 1) := by decide +kernel
theorem dX2_push_54 : decode cX2_push 54 = .ok (.aload_n 0, 1) := by decide +kernel
theorem dX2_push_55 : decode cX2_push 55 = .ok (.getfield 70, 3) := by decide +kernel
theorem dX2_push_58 : decode cX2_push 58 = .ok (.isub, 1) := by decide +kernel
theorem dX2_push_59 : decode cX2_push 59 = .ok (.invokestatic 99, 3) := by decide +kernel
theorem dX2_push_62 : decode cX2_push 62 = .ok (.istore 4, 2) := by decide +kernel
theorem dX2_push_64 : decode cX2_push 64 = .ok (.aload_n 0, 1) := by decide +kernel
theorem dX2_push_65 : decode cX2_push 65 = .ok (.iload 5, 2) := by decide +kernel
theorem dX2_push_67 : decode cX2_push 67 = .ok (.invokevirtual 112, 3) := by decide +kernel
theorem dX2_push_70 : decode cX2_push 70 = .ok (.istore 5, 2) := by decide +kernel
theorem dX2_push_72 : decode cX2_push 72 = .ok (.iinc 6 1, 3) := by decide +kernel
theorem dX2_push_75 : decode cX2_push 75 = .ok (.goto (-55), 3) := by decide +kernel
theorem dX2_push_78 : decode cX2_push 78 = .ok (.iload_n 2, 1) := by decide +kernel
theorem dX2_push_79 : decode cX2_push 79 = .ok (.istore 5, 2) := by decide +kernel
theorem dX2_push_81 : decode cX2_push 81 = .ok (.iconst 0, 1) := by decide +kernel
theorem dX2_push_82 : decode cX2_push 82 = .ok (.istore 6, 2) := by decide +kernel
theorem dX2_push_84 : decode cX2_push 84 = .ok (.iload 6, 2) := by decide +kernel
theorem dX2_push_86 : decode cX2_push 86 = .ok (.bipush 22, 2) := by decide +kernel
theorem dX2_push_88 : decode cX2_push 88 = .ok (.if_icmp .ge 53, 3) := by decide +kernel
theorem dX2_push_91 : decode cX2_push 91 = .ok (.iload 5, 2) := by decide +kernel
theorem dX2_push_93 : decode cX2_push 93 = .ok (.iload_n 1, 1) := by decide +kernel
theorem dX2_push_94 : decode cX2_push 94 = .ok (.if_icmp .eq 47, 3) := by decide +kernel
theorem dX2_push_97 : decode cX2_push 97 = .ok (.aload_n 0, 1) := by decide +kernel
theorem dX2_push_98 : decode cX2_push 98 = .ok (.getfield 15, 3) := by decide +kernel
theorem dX2_push_101 : decode cX2_push 101 = .ok (.aload_n 0, 1) := by decide +kernel
theorem dX2_push_102 : decode cX2_push 102 = .ok (.getfield 25, 3) := by decide +kernel
theorem dX2_push_105 : decode cX2_push 105 = .ok (.iload 5, 2) := by decide +kernel
theorem dX2_push_107 : decode cX2_push 107 = .ok (.iaload, 1) := by decide +kernel
theorem dX2_push_108 : decode cX2_push 108 = .ok (.dup2, 1) := by decide +kernel
theorem dX2_push_109 : decode cX2_push 109 = .ok (.iaload, 1) := by decide +kernel
theorem dX2_push_110 : decode cX2_push 110 = .ok (.iload 5, 2) := by decide +kernel
theorem dX2_push_112 : decode cX2_push 112 = .ok (.bipush 10, 2) := by decide +kernel
theorem dX2_push_114 : decode cX2_push 114 = .ok (.if_icmp .lt 9, 3) := by decide +kernel
theorem dX2_push_117 : decode cX2_push 117 = .ok (.iload 4, 2) := by decide +kernel
theorem dX2_push_119 : decode cX2_push 119 = .ok (.ineg, 1) := by decide +kernel
theorem dX2_push_120 : decode cX2_push 120 = .ok (.goto 5, 3) := by decide +kernel
theorem dX2_push_123 : decode cX2_push 123 = .ok (.iload 4, 2) := by decide +kernel
theorem dX2_push_125 : decode cX2_push 125 = .ok (.iadd, 1) := by decide +kernel
theorem dX2_push_126 : decode cX2_push 126 = .ok (.iastore, 1) := by decide +kernel
theorem dX2_push_127 : decode cX2_push 127 = .ok (.aload_n 0, 1) := by decide +kernel
theorem dX2_push_128 : decode cX2_push 128 = .ok (.iload 5, 2) := by decide +kernel
theorem dX2_push_130 : decode cX2_push 130 = .ok (.invokevirtual 112, 3) := by decide +kernel
theorem dX2_push_133 : decode cX2_push 133 = .ok (.istore 5, 2) := by decide +kernel
theorem dX2_push_135 : decode cX2_push 135 = .ok (.iinc 6 1, 3) := by decide +kernel
theorem dX2_push_138 : decode cX2_push 138 = .ok (.goto (-54), 3) := by decide +kernel
theorem dX2_push_141 : decode cX2_push 141 = .ok (.iload 4, 2) := by decide +kernel
theorem dX2_push_143 : decode cX2_push 143 = .ok (.ireturn, 1) := by decide +kernel
theorem dX2_nodeBefore_0 : decode cX2_nodeBefore 0 = .ok (.aload_n 0, 1) := by decide +kernel
theorem dX2_nodeBefore_1 : decode cX2_nodeBefore 1 = .ok (.getfield 25, 3) := by decide +kernel
theorem dX2_nodeBefore_4 : decode cX2_nodeBefore 4 = .ok (.iload_n 1, 1) := by decide +kernel
theorem dX2_nodeBefore_5 : decode cX2_nodeBefore 5 = .ok (.iaload, 1) := by decide +kernel
theorem dX2_nodeBefore_6 : decode cX2_nodeBefore 6 = .ok (.istore_n 2, 1) := by decide +kernel
theorem dX2_nodeBefore_7 : decode cX2_nodeBefore 7 = .ok (.iload_n 1, 1) := by decide +kernel
theorem dX2_nodeBefore_8 : decode cX2_nodeBefore 8 = .ok (.bipush 10, 2) := by decide +kernel
theorem dX2_nodeBefore_10 : decode cX2_nodeBefore 10 = .ok (.if_icmp .lt 12, 3) := by decide +kernel
theorem dX2_nodeBefore_13 : decode cX2_nodeBefore 13 = .ok (.aload_n 0, 1) := by decide +kernel
theorem dX2_nodeBefore_14 : decode cX2_nodeBefore 14 = .ok (.getfield 19, 3) := by decide +kernel
theorem dX2_nodeBefore_17 : decode cX2_nodeBefore 17 = .ok (.iload_n 2, 1) := by decide +kernel
theorem dX2_nodeBefore_18 : decode cX2_nodeBefore 18 = .ok (.iaload, 1) := by decide +kernel
theorem dX2_nodeBefore_19 : decode cX2_nodeBefore 19 = .ok (.goto 9, 3) := by decide +kernel
theorem dX2_nodeBefore_22 : decode cX2_nodeBefore 22 = .ok (.bipush 10, 2) := by decide +kernel
theorem dX2_nodeBefore_24 : decode cX2_nodeBefore 24 = .ok (.iload_n 2, 1) := by decide +kernel
theorem dX2_nodeBefore_25 : decode cX2_nodeBefore 25 = .ok (.iconst 3, 1) := by decide +kernel
theorem dX2_nodeBefore_26 : decode cX2_nodeBefore 26 = .ok (.idiv, 1) := by decide +kernel
theorem dX2_nodeBefore_27 : decode cX2_nodeBefore 27 = .ok (.iadd, 1) := by decide +kernel
theorem dX2_nodeBefore_28 : decode cX2_nodeBefore 28 = .ok (.ireturn, 1) := by decide +kernel
theorem dX2_reaches_0 : decode cX2_reaches 0 = .ok (.aload_n 0, 1) := by decide +kernel
theorem dX2_reaches_1 : decode cX2_reaches 1 = .ok (.getfield 25, 3) := by decide +kernel
theorem dX2_reaches_4 : decode cX2_reaches 4 = .ok (.iconst (-1), 1) := by decide +kernel
theorem dX2_reaches_5 : decode cX2_reaches 5 = .ok (.invokestatic 80, 3) := by decide +kernel
theorem dX2_reaches_8 : decode cX2_reaches 8 = .ok (.aload_n 0, 1) := by decide +kernel
theorem dX2_reaches_9 : decode cX2_reaches 9 = .ok (.getfield 25, 3) := by decide +kernel
theorem dX2_reaches_12 : decode cX2_reaches 12 = .ok (.iload_n 1, 1) := by decide +kernel
theorem dX2_reaches_13 : decode cX2_reaches 13 = .ok (.bipush (-2), 2) := by decide +kernel
theorem dX2_reaches_15 : decode cX2_reaches 15 = .ok (.iastore, 1) := by decide +kernel
theorem dX2_reaches_16 : decode cX2_reaches 16 = .ok (.aload_n 0, 1) := by decide +kernel
theorem dX2_reaches_17 : decode cX2_reaches 17 = .ok (.getfield 28, 3) := by decide +kernel
theorem dX2_reaches_20 : decode cX2_reaches 20 = .ok (.iconst 0, 1) := by decide +kernel
theorem dX2_reaches_21 : decode cX2_reaches 21 = .ok (.iload_n 1, 1) := by decide +kernel
theorem dX2_reaches_22 : decode cX2_reaches 22 = .ok (.iastore, 1) := by decide +kernel
theorem dX2_reaches_23 : decode cX2_reaches 23 = .ok (.iconst 1, 1) := by decide +kernel
theorem dX2_reaches_24 : decode cX2_reaches 24 = .ok (.istore_n 3, 1) := by decide +kernel
theorem dX2_reaches_25 : decode cX2_reaches 25 = .ok (.iconst 0, 1) := by decide +kernel
theorem dX2_reaches_26 : decode cX2_reaches 26 = .ok (.istore 4, 2) := by decide +kernel
theorem dX2_reaches_28 : decode cX2_reaches 28 = .ok (.iload 4, 2) := by decide +kernel
theorem dX2_reaches_30 : decode cX2_reaches 30 = .ok (.bipush 22, 2) := by decide +kernel
theorem dX2_reaches_32 : decode cX2_reaches 32 = .ok (.if_icmp .ge 59, 3) := by decide +kernel
theorem dX2_reaches_35 : decode cX2_reaches 35 = .ok (.iload 4, 2) := by decide +kernel
theorem dX2_reaches_37 : decode cX2_reaches 37 = .ok (.iload_n 3, 1) := by decide +kernel
theorem dX2_reaches_38 : decode cX2_reaches 38 = .ok (.if_icmp .ge 53, 3) := by decide +kernel
theorem dX2_reaches_41 : decode cX2_reaches 41 = .ok (.aload_n 0, 1) := by decide +kernel
theorem dX2_reaches_42 : decode cX2_reaches 42 = .ok (.getfield 25, 3) := by decide +kernel
theorem dX2_reaches_45 : decode cX2_reaches 45 = .ok (.iload_n 2, 1) := by decide +kernel
theorem dX2_reaches_46 : decode cX2_reaches 46 = .ok (.iaload, 1) := by decide +kernel
theorem dX2_reaches_47 : decode cX2_reaches 47 = .ok (.iconst (-1), 1) := by decide +kernel
theorem dX2_reaches_48 : decode cX2_reaches 48 = .ok (.if_icmp .ne 43, 3) := by decide +kernel
theorem dX2_reaches_51 : decode cX2_reaches 51 = .ok (.aload_n 0, 1) := by decide +kernel
theorem dX2_reaches_52 : decode cX2_reaches 52 = .ok (.getfield 28, 3) := by decide +kernel
theorem dX2_reaches_55 : decode cX2_reaches 55 = .ok (.iload 4, 2) := by decide +kernel
theorem dX2_reaches_57 : decode cX2_reaches 57 = .ok (.iaload, 1) := by decide +kernel
theorem dX2_reaches_58 : decode cX2_reaches 58 = .ok (.istore 5, 2) := by decide +kernel
theorem dX2_reaches_60 : decode cX2_reaches 60 = .ok (.iload 5, 2) := by decide +kernel
theorem dX2_reaches_62 : decode cX2_reaches 62 = .ok (.bipush 10, 2) := by decide +kernel
theorem dX2_reaches_64 : decode cX2_reaches 64 = .ok (.if_icmp .lt 13, 3) := by decide +kernel
theorem dX2_reaches_67 : decode cX2_reaches 67 = .ok (.aload_n 0, 1) := by decide +kernel
theorem dX2_reaches_68 : decode cX2_reaches 68 = .ok (.iload 5, 2) := by decide +kernel
theorem dX2_reaches_70 : decode cX2_reaches 70 = .ok (.iload_n 3, 1) := by decide +kernel
theorem dX2_reaches_71 : decode cX2_reaches 71 = .ok (.invokevirtual 115, 3) := by decide +kernel
theorem dX2_reaches_74 : decode cX2_reaches 74 = .ok (.goto 10, 3) := by decide +kernel
theorem dX2_reaches_77 : decode cX2_reaches 77 = .ok (.aload_n 0, 1) := by decide +kernel
theorem dX2_reaches_78 : decode cX2_reaches 78 = .ok (.iload 5, 2) := by decide +kernel
theorem dX2_reaches_80 : decode cX2_reaches 80 = .ok (.iload_n 3, 1) := by decide +kernel
theorem dX2_reaches_81 : decode cX2_reaches 81 = .ok (.invokevirtual 118, 3) := by decide +kernel
theorem dX2_reaches_84 : decode cX2_reaches 84 = .ok (.istore_n 3, 1) := by decide +kernel
theorem dX2_reaches_85 : decode cX2_reaches 85 = .ok (.iinc 4 1, 3) := by decide +kernel
theorem dX2_reaches_88 : decode cX2_reaches 88 = .ok (.goto (-60), 3) := by decide +kernel
theorem dX2_reaches_91 : decode cX2_reaches 91 = .ok (.aload_n 0, 1) := by decide +kernel
theorem dX2_reaches_92 : decode cX2_reaches 92 = .ok (.getfield 25, 3) := by decide +kernel
theorem dX2_reaches_95 : decode cX2_reaches 95 = .ok (.iload_n 2, 1) := by decide +kernel
theorem dX2_reaches_96 : decode cX2_reaches 96 = .ok (.iaload, 1) := by decide +kernel
theorem dX2_reaches_97 : decode cX2_reaches 97 = .ok (.iconst (-1), 1) := by decide +kernel
theorem dX2_reaches_98 : decode cX2_reaches 98 = .ok (.if_icmp .eq 7, 3) := by decide +kernel
theorem dX2_reaches_101 : decode cX2_reaches 101 = .ok (.iconst 1, 1) := by decide +kernel
theorem dX2_reaches_102 : decode cX2_reaches 102 = .ok (.goto 4, 3) := by decide +kernel
theorem dX2_reaches_105 : decode cX2_reaches 105 = .ok (.iconst 0, 1) := by decide +kernel
theorem dX2_reaches_106 : decode cX2_reaches 106 = .ok (.ireturn, 1) := by decide +kernel
theorem dX2_seeFromThird_0 : decode cX2_seeFromThird 0 = .ok (.iload_n 2, 1) := by decide +kernel
theorem dX2_seeFromThird_1 : decode cX2_seeFromThird 1 = .ok (.istore_n 3, 1) := by decide +kernel
theorem dX2_seeFromThird_2 : decode cX2_seeFromThird 2 = .ok (.iconst 3, 1) := by decide +kernel
theorem dX2_seeFromThird_3 : decode cX2_seeFromThird 3 = .ok (.iload_n 1, 1) := by decide +kernel
theorem dX2_seeFromThird_4 : decode cX2_seeFromThird 4 = .ok (.bipush 10, 2) := by decide +kernel
theorem dX2_seeFromThird_6 : decode cX2_seeFromThird 6 = .ok (.isub, 1) := by decide +kernel
theorem dX2_seeFromThird_7 : decode cX2_seeFromThird 7 = .ok (.imul, 1) := by decide +kernel
theorem dX2_seeFromThird_8 : decode cX2_seeFromThird 8 = .ok (.istore 4, 2) := by decide +kernel
theorem dX2_seeFromThird_10 : decode cX2_seeFromThird 10 = .ok (.iload 4, 2) := by decide +kernel
theorem dX2_seeFromThird_12 : decode cX2_seeFromThird 12 = .ok (.aload_n 0, 1) := by decide +kernel
theorem dX2_seeFromThird_13 : decode cX2_seeFromThird 13 = .ok (.getfield 73, 3) := by decide +kernel
theorem dX2_seeFromThird_16 : decode cX2_seeFromThird 16 = .ok (.invokestatic 121, 3) := by decide +kernel
theorem dX2_seeFromThird_19 : decode cX2_seeFromThird 19 = .ok (.istore 5, 2) := by decide +kernel
theorem dX2_seeFromThird_21 : decode cX2_seeFromThird 21 = .ok (.iload 5, 2) := by decide +kernel
theorem dX2_seeFromThird_23 : decode cX2_seeFromThird 23 = .ok (.iload 4, 2) := by decide +kernel
theorem dX2_seeFromThird_25 : decode cX2_seeFromThird 25 = .ok (.iconst 3, 1) := by decide +kernel
theorem dX2_seeFromThird_26 : decode cX2_seeFromThird 26 = .ok (.iadd, 1) := by decide +kernel
theorem dX2_seeFromThird_27 : decode cX2_seeFromThird 27 = .ok (.if_icmp .ge 49, 3) := by decide +kernel
theorem dX2_seeFromThird_30 : decode cX2_seeFromThird 30 = .ok (.aload_n 0, 1) := by decide +kernel
theorem dX2_seeFromThird_31 : decode cX2_seeFromThird 31 = .ok (.getfield 19, 3) := by decide +kernel
theorem dX2_seeFromThird_34 : decode cX2_seeFromThird 34 = .ok (.iload 5, 2) := by decide +kernel
theorem dX2_seeFromThird_36 : decode cX2_seeFromThird 36 = .ok (.iaload, 1) := by decide +kernel
theorem dX2_seeFromThird_37 : decode cX2_seeFromThird 37 = .ok (.istore 6, 2) := by decide +kernel
theorem dX2_seeFromThird_39 : decode cX2_seeFromThird 39 = .ok (.aload_n 0, 1) := by decide +kernel
theorem dX2_seeFromThird_40 : decode cX2_seeFromThird 40 = .ok (.getfield 25, 3) := by decide +kernel
theorem dX2_seeFromThird_43 : decode cX2_seeFromThird 43 = .ok (.iload 6, 2) := by decide +kernel
theorem dX2_seeFromThird_45 : decode cX2_seeFromThird 45 = .ok (.iaload, 1) := by decide +kernel
theorem dX2_seeFromThird_46 : decode cX2_seeFromThird 46 = .ok (.iconst (-1), 1) := by decide +kernel
theorem dX2_seeFromThird_47 : decode cX2_seeFromThird 47 = .ok (.if_icmp .ne 23, 3) := by decide +kernel
theorem dX2_seeFromThird_50 : decode cX2_seeFromThird 50 = .ok (.aload_n 0, 1) := by decide +kernel
theorem dX2_seeFromThird_51 : decode cX2_seeFromThird 51 = .ok (.getfield 25, 3) := by decide +kernel
theorem dX2_seeFromThird_54 : decode cX2_seeFromThird 54 = .ok (.iload 6, 2) := by decide +kernel
theorem dX2_seeFromThird_56 : decode cX2_seeFromThird 56 = .ok (.iload 5, 2) := by decide +kernel
theorem dX2_seeFromThird_58 : decode cX2_seeFromThird 58 = .ok (.iastore, 1) := by decide +kernel
theorem dX2_seeFromThird_59 : decode cX2_seeFromThird 59 = .ok (.aload_n 0, 1) := by decide +kernel
theorem dX2_seeFromThird_60 : decode cX2_seeFromThird 60 = .ok (.getfield 28, 3) := by decide +kernel
theorem dX2_seeFromThird_63 : decode cX2_seeFromThird 63 = .ok (.iload_n 3, 1) := by decide +kernel
theorem dX2_seeFromThird_64 : decode cX2_seeFromThird 64 = .ok (.iload 6, 2) := by decide +kernel
theorem dX2_seeFromThird_66 : decode cX2_seeFromThird 66 = .ok (.iastore, 1) := by decide +kernel
theorem dX2_seeFromThird_67 : decode cX2_seeFromThird 67 = .ok (.iinc 3 1, 3) := by decide +kernel
theorem dX2_seeFromThird_70 : decode cX2_seeFromThird 70 = .ok (.iinc 5 1, 3) := by decide +kernel
theorem dX2_seeFromThird_73 : decode cX2_seeFromThird 73 = .ok (.goto (-52), 3) := by decide +kernel
theorem dX2_seeFromThird_76 : decode cX2_seeFromThird 76 = .ok (.iload_n 3, 1) := by decide +kernel
theorem dX2_seeFromThird_77 : decode cX2_seeFromThird 77 = .ok (.ireturn, 1) := by decide +kernel
theorem dX2_seeFromPost_0 : decode cX2_seeFromPost 0 = .ok (.iload_n 2, 1) := by decide +kernel
theorem dX2_seeFromPost_1 : decode cX2_seeFromPost 1 = .ok (.istore_n 3, 1) := by decide +kernel
theorem dX2_seeFromPost_2 : decode cX2_seeFromPost 2 = .ok (.aload_n 0, 1) := by decide +kernel
theorem dX2_seeFromPost_3 : decode cX2_seeFromPost 3 = .ok (.getfield 73, 3) := by decide +kernel
theorem dX2_seeFromPost_6 : decode cX2_seeFromPost 6 = .ok (.istore 4, 2) := by decide +kernel
theorem dX2_seeFromPost_8 : decode cX2_seeFromPost 8 = .ok (.iload 4, 2) := by decide +kernel
theorem dX2_seeFromPost_10 : decode cX2_seeFromPost 10 = .ok (.aload_n 0, 1) := by decide +kernel
theorem dX2_seeFromPost_11 : decode cX2_seeFromPost 11 = .ok (.getfield 35, 3) := by decide +kernel
theorem dX2_seeFromPost_14 : decode cX2_seeFromPost 14 = .ok (.if_icmp .ge 74, 3) := by decide +kernel
theorem dX2_seeFromPost_17 : decode cX2_seeFromPost 17 = .ok (.bipush 10, 2) := by decide +kernel
theorem dX2_seeFromPost_19 : decode cX2_seeFromPost 19 = .ok (.iload 4, 2) := by decide +kernel
theorem dX2_seeFromPost_21 : decode cX2_seeFromPost 21 = .ok (.iconst 3, 1) := by decide +kernel
theorem dX2_seeFromPost_22 : decode cX2_seeFromPost 22 = .ok (.idiv, 1) := by decide +kernel
theorem dX2_seeFromPost_23 : decode cX2_seeFromPost 23 = .ok (.iadd, 1) := by decide +kernel
theorem dX2_seeFromPost_24 : decode cX2_seeFromPost 24 = .ok (.istore 5, 2) := by decide +kernel
theorem dX2_seeFromPost_26 : decode cX2_seeFromPost 26 = .ok (.aload_n 0, 1) := by decide +kernel
theorem dX2_seeFromPost_27 : decode cX2_seeFromPost 27 = .ok (.getfield 19, 3) := by decide +kernel
theorem dX2_seeFromPost_30 : decode cX2_seeFromPost 30 = .ok (.iload 4, 2) := by decide +kernel
theorem dX2_seeFromPost_32 : decode cX2_seeFromPost 32 = .ok (.iaload, 1) := by decide +kernel
theorem dX2_seeFromPost_33 : decode cX2_seeFromPost 33 = .ok (.iload_n 1, 1) := by decide +kernel
theorem dX2_seeFromPost_34 : decode cX2_seeFromPost 34 = .ok (.if_icmp .ne 48, 3) := by decide +kernel
theorem dX2_seeFromPost_37 : decode cX2_seeFromPost 37 = .ok (.aload_n 0, 1) := by decide +kernel
theorem dX2_seeFromPost_38 : decode cX2_seeFromPost 38 = .ok (.getfield 15, 3) := by decide +kernel
theorem dX2_seeFromPost_41 : decode cX2_seeFromPost 41 = .ok (.iload 4, 2) := by decide +kernel
theorem dX2_seeFromPost_43 : decode cX2_seeFromPost 43 = .ok (.iaload, 1) := by decide +kernel
theorem dX2_seeFromPost_44 : decode cX2_seeFromPost 44 = .ok (.aload_n 0, 1) := by decide +kernel
theorem dX2_seeFromPost_45 : decode cX2_seeFromPost 45 = .ok (.getfield 70, 3) := by decide +kernel
theorem dX2_seeFromPost_48 : decode cX2_seeFromPost 48 = .ok (.if_icmp .le 34, 3) := by decide +kernel
theorem dX2_seeFromPost_51 : decode cX2_seeFromPost 51 = .ok (.aload_n 0, 1) := by decide +kernel
theorem dX2_seeFromPost_52 : decode cX2_seeFromPost 52 = .ok (.getfield 25, 3) := by decide +kernel
theorem dX2_seeFromPost_55 : decode cX2_seeFromPost 55 = .ok (.iload 5, 2) := by decide +kernel
theorem dX2_seeFromPost_57 : decode cX2_seeFromPost 57 = .ok (.iaload, 1) := by decide +kernel
theorem dX2_seeFromPost_58 : decode cX2_seeFromPost 58 = .ok (.iconst (-1), 1) := by decide +kernel
theorem dX2_seeFromPost_59 : decode cX2_seeFromPost 59 = .ok (.if_icmp .ne 23, 3) := by decide +kernel
theorem dX2_seeFromPost_62 : decode cX2_seeFromPost 62 = .ok (.aload_n 0, 1) := by decide +kernel
theorem dX2_seeFromPost_63 : decode cX2_seeFromPost 63 = .ok (.getfield 25, 3) := by decide +kernel
theorem dX2_seeFromPost_66 : decode cX2_seeFromPost 66 = .ok (.iload 5, 2) := by decide +kernel
theorem dX2_seeFromPost_68 : decode cX2_seeFromPost 68 = .ok (.iload 4, 2) := by decide +kernel
theorem dX2_seeFromPost_70 : decode cX2_seeFromPost 70 = .ok (.iastore, 1) := by decide +kernel
theorem dX2_seeFromPost_71 : decode cX2_seeFromPost 71 = .ok (.aload_n 0, 1) := by decide +kernel
theorem dX2_seeFromPost_72 : decode cX2_seeFromPost 72 = .ok (.getfield 28, 3) := by decide +kernel
theorem dX2_seeFromPost_75 : decode cX2_seeFromPost 75 = .ok (.iload_n 3, 1) := by decide +kernel
theorem dX2_seeFromPost_76 : decode cX2_seeFromPost 76 = .ok (.iload 5, 2) := by decide +kernel
theorem dX2_seeFromPost_78 : decode cX2_seeFromPost 78 = .ok (.iastore, 1) := by decide +kernel
theorem dX2_seeFromPost_79 : decode cX2_seeFromPost 79 = .ok (.iinc 3 1, 3) := by decide +kernel
theorem dX2_seeFromPost_82 : decode cX2_seeFromPost 82 = .ok (.iinc 4 1, 3) := by decide +kernel
theorem dX2_seeFromPost_85 : decode cX2_seeFromPost 85 = .ok (.goto (-77), 3) := by decide +kernel
theorem dX2_seeFromPost_88 : decode cX2_seeFromPost 88 = .ok (.iload_n 3, 1) := by decide +kernel
theorem dX2_seeFromPost_89 : decode cX2_seeFromPost 89 = .ok (.ireturn, 1) := by decide +kernel
theorem dX3_init_0 : decode cX3_init 0 = .ok (.aload_n 0, 1) := by decide +kernel
theorem dX3_init_1 : decode cX3_init 1 = .ok (.invokespecial 5, 3) := by decide +kernel
theorem dX3_init_4 : decode cX3_init 4 = .ok (.aload_n 0, 1) := by decide +kernel
theorem dX3_init_5 : decode cX3_init 5 = .ok (.bipush 36, 2) := by decide +kernel
theorem dX3_init_7 : decode cX3_init 7 = .ok (.newarray .int, 2) := by decide +kernel
theorem dX3_init_9 : decode cX3_init 9 = .ok (.putfield 11, 3) := by decide +kernel
theorem dX3_init_12 : decode cX3_init 12 = .ok (.aload_n 0, 1) := by decide +kernel
theorem dX3_init_13 : decode cX3_init 13 = .ok (.bipush 9, 2) := by decide +kernel
theorem dX3_init_15 : decode cX3_init 15 = .ok (.newarray .int, 2) := by decide +kernel
theorem dX3_init_17 : decode cX3_init 17 = .ok (.putfield 15, 3) := by decide +kernel
theorem dX3_init_20 : decode cX3_init 20 = .ok (.aload_n 0, 1) := by decide +kernel
theorem dX3_init_21 : decode cX3_init 21 = .ok (.bipush 81, 2) := by decide +kernel
theorem dX3_init_23 : decode cX3_init 23 = .ok (.newarray .int, 2) := by decide +kernel
theorem dX3_init_25 : decode cX3_init 25 = .ok (.putfield 18, 3) := by decide +kernel
theorem dX3_init_28 : decode cX3_init 28 = .ok (.aload_n 0, 1) := by decide +kernel
theorem dX3_init_29 : decode cX3_init 29 = .ok (.iconst 4, 1) := by decide +kernel
theorem dX3_init_30 : decode cX3_init 30 = .ok (.putfield 21, 3) := by decide +kernel
theorem dX3_init_33 : decode cX3_init 33 = .ok (.aload_n 0, 1) := by decide +kernel
theorem dX3_init_34 : decode cX3_init 34 = .ok (.iconst 0, 1) := by decide +kernel
theorem dX3_init_35 : decode cX3_init 35 = .ok (.putfield 25, 3) := by decide +kernel
theorem dX3_init_38 : decode cX3_init 38 = .ok (.aload_n 0, 1) := by decide +kernel
theorem dX3_init_39 : decode cX3_init 39 = .ok (.getfield 15, 3) := by decide +kernel
theorem dX3_init_42 : decode cX3_init 42 = .ok (.iconst (-1), 1) := by decide +kernel
theorem dX3_init_43 : decode cX3_init 43 = .ok (.invokestatic 28, 3) := by decide +kernel
theorem dX3_init_46 : decode cX3_init 46 = .ok (.aload_n 0, 1) := by decide +kernel
theorem dX3_init_47 : decode cX3_init 47 = .ok (.getfield 18, 3) := by decide +kernel
theorem dX3_init_50 : decode cX3_init 50 = .ok (.iconst (-1), 1) := by decide +kernel
theorem dX3_init_51 : decode cX3_init 51 = .ok (.invokestatic 28, 3) := by decide +kernel
theorem dX3_init_54 : decode cX3_init 54 = .ok (.return_, 1) := by decide +kernel
theorem dX3_beginAnew_0 : decode cX3_beginAnew 0 = .ok (.aload_n 0, 1) := by decide +kernel
theorem dX3_beginAnew_1 : decode cX3_beginAnew 1 = .ok (.iload_n 1, 1) := by decide +kernel
theorem dX3_beginAnew_2 : decode cX3_beginAnew 2 = .ok (.putfield 21, 3) := by decide +kernel
theorem dX3_beginAnew_5 : decode cX3_beginAnew 5 = .ok (.aload_n 0, 1) := by decide +kernel
theorem dX3_beginAnew_6 : decode cX3_beginAnew 6 = .ok (.iconst 0, 1) := by decide +kernel
theorem dX3_beginAnew_7 : decode cX3_beginAnew 7 = .ok (.putfield 25, 3) := by decide +kernel
theorem dX3_beginAnew_10 : decode cX3_beginAnew 10 = .ok (.aload_n 0, 1) := by decide +kernel
theorem dX3_beginAnew_11 : decode cX3_beginAnew 11 = .ok (.getfield 15, 3) := by decide +kernel
theorem dX3_beginAnew_14 : decode cX3_beginAnew 14 = .ok (.iconst (-1), 1) := by decide +kernel
theorem dX3_beginAnew_15 : decode cX3_beginAnew 15 = .ok (.invokestatic 28, 3) := by decide +kernel
theorem dX3_beginAnew_18 : decode cX3_beginAnew 18 = .ok (.aload_n 0, 1) := by decide +kernel
theorem dX3_beginAnew_19 : decode cX3_beginAnew 19 = .ok (.invokevirtual 34, 3) := by decide +kernel
theorem dX3_beginAnew_22 : decode cX3_beginAnew 22 = .ok (.return_, 1) := by decide +kernel
theorem dX3_pack_0 : decode cX3_pack 0 = .ok (.iload_n 0, 1) := by decide +kernel
theorem dX3_pack_1 : decode cX3_pack 1 = .ok (.iload_n 1, 1) := by decide +kernel
theorem dX3_pack_2 : decode cX3_pack 2 = .ok (.iconst 4, 1) := by decide +kernel
theorem dX3_pack_3 : decode cX3_pack 3 = .ok (.ishl, 1) := by decide +kernel
theorem dX3_pack_4 : decode cX3_pack 4 = .ok (.ior, 1) := by decide +kernel
theorem dX3_pack_5 : decode cX3_pack 5 = .ok (.iload_n 2, 1) := by decide +kernel
theorem dX3_pack_6 : decode cX3_pack 6 = .ok (.bipush 8, 2) := by decide +kernel
theorem dX3_pack_8 : decode cX3_pack 8 = .ok (.ishl, 1) := by decide +kernel
theorem dX3_pack_9 : decode cX3_pack 9 = .ok (.ior, 1) := by decide +kernel
theorem dX3_pack_10 : decode cX3_pack 10 = .ok (.ireturn, 1) := by decide +kernel
theorem dX3_packed_0 : decode cX3_packed 0 = .ok (.aload_n 0, 1) := by decide +kernel
theorem dX3_packed_1 : decode cX3_packed 1 = .ok (.getfield 11, 3) := by decide +kernel
theorem dX3_packed_4 : decode cX3_packed 4 = .ok (.iconst 3, 1) := by decide +kernel
theorem dX3_packed_5 : decode cX3_packed 5 = .ok (.iload_n 1, 1) := by decide +kernel
theorem dX3_packed_6 : decode cX3_packed 6 = .ok (.imul, 1) := by decide +kernel
theorem dX3_packed_7 : decode cX3_packed 7 = .ok (.iaload, 1) := by decide +kernel
theorem dX3_packed_8 : decode cX3_packed 8 = .ok (.aload_n 0, 1) := by decide +kernel
theorem dX3_packed_9 : decode cX3_packed 9 = .ok (.getfield 11, 3) := by decide +kernel
theorem dX3_packed_12 : decode cX3_packed 12 = .ok (.iconst 3, 1) := by decide +kernel
theorem dX3_packed_13 : decode cX3_packed 13 = .ok (.iload_n 1, 1) := by decide +kernel
theorem dX3_packed_14 : decode cX3_packed 14 = .ok (.imul, 1) := by decide +kernel
theorem dX3_packed_15 : decode cX3_packed 15 = .ok (.iconst 1, 1) := by decide +kernel
theorem dX3_packed_16 : decode cX3_packed 16 = .ok (.iadd, 1) := by decide +kernel
theorem dX3_packed_17 : decode cX3_packed 17 = .ok (.iaload, 1) := by decide +kernel
theorem dX3_packed_18 : decode cX3_packed 18 = .ok (.aload_n 0, 1) := by decide +kernel
theorem dX3_packed_19 : decode cX3_packed 19 = .ok (.getfield 11, 3) := by decide +kernel
theorem dX3_packed_22 : decode cX3_packed 22 = .ok (.iconst 3, 1) := by decide +kernel
theorem dX3_packed_23 : decode cX3_packed 23 = .ok (.iload_n 1, 1) := by decide +kernel
theorem dX3_packed_24 : decode cX3_packed 24 = .ok (.imul, 1) := by decide +kernel
theorem dX3_packed_25 : decode cX3_packed 25 = .ok (.iconst 2, 1) := by decide +kernel
theorem dX3_packed_26 : decode cX3_packed 26 = .ok (.iadd, 1) := by decide +kernel
theorem dX3_packed_27 : decode cX3_packed 27 = .ok (.iaload, 1) := by decide +kernel
theorem dX3_packed_28 : decode cX3_packed 28 = .ok (.invokestatic 37, 3) := by decide +kernel
theorem dX3_packed_31 : decode cX3_packed 31 = .ok (.ireturn, 1) := by decide +kernel
theorem dX3_put_0 : decode cX3_put 0 = .ok (.iload_n 1, 1) := by decide +kernel
theorem dX3_put_1 : decode cX3_put 1 = .ok (.ifCond .lt 9, 3) := by decide +kernel
theorem dX3_put_4 : decode cX3_put 4 = .ok (.iload_n 1, 1) := by decide +kernel
theorem dX3_put_5 : decode cX3_put 5 = .ok (.bipush 21, 2) := by decide +kernel
theorem dX3_put_7 : decode cX3_put 7 = .ok (.if_icmp .lt 4, 3) := by decide +kernel
theorem dX3_put_10 : decode cX3_put 10 = .ok (.return_, 1) := by decide +kernel
theorem dX3_put_11 : decode cX3_put 11 = .ok (.iload_n 1, 1) := by decide +kernel
theorem dX3_put_12 : decode cX3_put 12 = .ok (.bipush 12, 2) := by decide +kernel
theorem dX3_put_14 : decode cX3_put 14 = .ok (.if_icmp .lt 16, 3) := by decide +kernel
theorem dX3_put_17 : decode cX3_put 17 = .ok (.aload_n 0, 1) := by decide +kernel
theorem dX3_put_18 : decode cX3_put 18 = .ok (.getfield 15, 3) := by decide +kernel
theorem dX3_put_21 : decode cX3_put 21 = .ok (.iload_n 1, 1) := by decide +kernel
theorem dX3_put_22 : decode cX3_put 22 = .ok (.bipush 12, 2) := by decide +kernel
theorem dX3_put_24 : decode cX3_put 24 = .ok (.isub, 1) := by decide +kernel
theorem dX3_put_25 : decode cX3_put 25 = .ok (.iload_n 2, 1) := by decide +kernel
theorem dX3_put_26 : decode cX3_put 26 = .ok (.iastore, 1) := by decide +kernel
theorem dX3_put_27 : decode cX3_put 27 = .ok (.goto 75, 3) := by decide +kernel
theorem dX3_put_30 : decode cX3_put 30 = .ok (.iload_n 2, 1) := by decide +kernel
theorem dX3_put_31 : decode cX3_put 31 = .ok (.iconst (-1), 1) := by decide +kernel
theorem dX3_put_32 : decode cX3_put 32 = .ok (.if_icmp .ne 11, 3) := by decide +kernel
theorem dX3_put_35 : decode cX3_put 35 = .ok (.aload_n 0, 1) := by decide +kernel
theorem dX3_put_36 : decode cX3_put 36 = .ok (.iload_n 1, 1) := by decide +kernel
theorem dX3_put_37 : decode cX3_put 37 = .ok (.putfield 25, 3) := by decide +kernel
theorem dX3_put_40 : decode cX3_put 40 = .ok (.goto 62, 3) := by decide +kernel
theorem dX3_put_43 : decode cX3_put 43 = .ok (.aload_n 0, 1) := by decide +kernel
theorem dX3_put_44 : decode cX3_put 44 = .ok (.getfield 11, 3) := by decide +kernel
theorem dX3_put_47 : decode cX3_put 47 = .ok (.iconst 3, 1) := by decide +kernel
theorem dX3_put_48 : decode cX3_put 48 = .ok (.iload_n 1, 1) := by decide +kernel
theorem dX3_put_49 : decode cX3_put 49 = .ok (.imul, 1) := by decide +kernel
theorem dX3_put_50 : decode cX3_put 50 = .ok (.iload_n 2, 1) := by decide +kernel
theorem dX3_put_51 : decode cX3_put 51 = .ok (.bipush 15, 2) := by decide +kernel
theorem dX3_put_53 : decode cX3_put 53 = .ok (.iand, 1) := by decide +kernel
theorem dX3_put_54 : decode cX3_put 54 = .ok (.iastore, 1) := by decide +kernel
theorem dX3_put_55 : decode cX3_put 55 = .ok (.aload_n 0, 1) := by decide +kernel
theorem dX3_put_56 : decode cX3_put 56 = .ok (.getfield 11, 3) := by decide +kernel
theorem dX3_put_59 : decode cX3_put 59 = .ok (.iconst 3, 1) := by decide +kernel
theorem dX3_put_60 : decode cX3_put 60 = .ok (.iload_n 1, 1) := by decide +kernel
theorem dX3_put_61 : decode cX3_put 61 = .ok (.imul, 1) := by decide +kernel
theorem dX3_put_62 : decode cX3_put 62 = .ok (.iconst 1, 1) := by decide +kernel
theorem dX3_put_63 : decode cX3_put 63 = .ok (.iadd, 1) := by decide +kernel
theorem dX3_put_64 : decode cX3_put 64 = .ok (.iload_n 2, 1) := by decide +kernel
theorem dX3_put_65 : decode cX3_put 65 = .ok (.iconst 4, 1) := by decide +kernel
theorem dX3_put_66 : decode cX3_put 66 = .ok (.ishr, 1) := by decide +kernel
theorem dX3_put_67 : decode cX3_put 67 = .ok (.bipush 15, 2) := by decide +kernel
theorem dX3_put_69 : decode cX3_put 69 = .ok (.iand, 1) := by decide +kernel
theorem dX3_put_70 : decode cX3_put 70 = .ok (.iastore, 1) := by decide +kernel
theorem dX3_put_71 : decode cX3_put 71 = .ok (.aload_n 0, 1) := by decide +kernel
theorem dX3_put_72 : decode cX3_put 72 = .ok (.getfield 11, 3) := by decide +kernel
theorem dX3_put_75 : decode cX3_put 75 = .ok (.iconst 3, 1) := by decide +kernel
theorem dX3_put_76 : decode cX3_put 76 = .ok (.iload_n 1, 1) := by decide +kernel
theorem dX3_put_77 : decode cX3_put 77 = .ok (.imul, 1) := by decide +kernel
theorem dX3_put_78 : decode cX3_put 78 = .ok (.iconst 2, 1) := by decide +kernel
theorem dX3_put_79 : decode cX3_put 79 = .ok (.iadd, 1) := by decide +kernel
theorem dX3_put_80 : decode cX3_put 80 = .ok (.iload_n 2, 1) := by decide +kernel
theorem dX3_put_81 : decode cX3_put 81 = .ok (.bipush 8, 2) := by decide +kernel
theorem dX3_put_83 : decode cX3_put 83 = .ok (.ishr, 1) := by decide +kernel
theorem dX3_put_84 : decode cX3_put 84 = .ok (.bipush 15, 2) := by decide +kernel
theorem dX3_put_86 : decode cX3_put 86 = .ok (.iand, 1) := by decide +kernel
theorem dX3_put_87 : decode cX3_put 87 = .ok (.iastore, 1) := by decide +kernel
theorem dX3_put_88 : decode cX3_put 88 = .ok (.aload_n 0, 1) := by decide +kernel
theorem dX3_put_89 : decode cX3_put 89 = .ok (.aload_n 0, 1) := by decide +kernel
theorem dX3_put_90 : decode cX3_put 90 = .ok (.getfield 25, 3) := by decide +kernel
theorem dX3_put_93 : decode cX3_put 93 = .ok (.iload_n 1, 1) := by decide +kernel
theorem dX3_put_94 : decode cX3_put 94 = .ok (.iconst 1, 1) := by decide +kernel
theorem dX3_put_95 : decode cX3_put 95 = .ok (.iadd, 1) := by decide +kernel
theorem dX3_put_96 : decode cX3_put 96 = .ok (.invokestatic 41, 3) := by decide +kernel
theorem dX3_put_99 : decode cX3_put 99 = .ok (.putfield 25, 3) := by decide +kernel
theorem dX3_put_102 : decode cX3_put 102 = .ok (.return_, 1) := by decide +kernel
theorem dX3_drawArrows_0 : decode cX3_drawArrows 0 = .ok (.aload_n 0, 1) := by decide +kernel
theorem dX3_drawArrows_1 : decode cX3_drawArrows 1 = .ok (.getfield 18, 3) := by decide +kernel
theorem dX3_drawArrows_4 : decode cX3_drawArrows 4 = .ok (.iconst (-1), 1) := by decide +kernel
theorem dX3_drawArrows_5 : decode cX3_drawArrows 5 = .ok (.invokestatic 28, 3) := by decide +kernel
theorem dX3_drawArrows_8 : decode cX3_drawArrows 8 = .ok (.iconst 0, 1) := by decide +kernel
theorem dX3_drawArrows_9 : decode cX3_drawArrows 9 = .ok (.istore_n 1, 1) := by decide +kernel
theorem dX3_drawArrows_10 : decode cX3_drawArrows 10 = .ok (.iload_n 1, 1) := by decide +kernel
theorem dX3_drawArrows_11 : decode cX3_drawArrows 11 = .ok (.aload_n 0, 1) := by decide +kernel
theorem dX3_drawArrows_12 : decode cX3_drawArrows 12 = .ok (.getfield 25, 3) := by decide +kernel
theorem dX3_drawArrows_15 : decode cX3_drawArrows 15 = .ok (.if_icmp .ge 79, 3) := by decide +kernel
theorem dX3_drawArrows_18 : decode cX3_drawArrows 18 = .ok (.aload_n 0, 1) := by decide +kernel
theorem dX3_drawArrows_19 : decode cX3_drawArrows 19 = .ok (.getfield 11, 3) := by decide +kernel
theorem dX3_drawArrows_22 : decode cX3_drawArrows 22 = .ok (.iconst 3, 1) := by decide +kernel
theorem dX3_drawArrows_23 : decode cX3_drawArrows 23 = .ok (.iload_n 1, 1) := by decide +kernel
theorem dX3_drawArrows_24 : decode cX3_drawArrows 24 = .ok (.imul, 1) := by decide +kernel
theorem dX3_drawArrows_25 : decode cX3_drawArrows 25 = .ok (.iaload, 1) := by decide +kernel
theorem dX3_drawArrows_26 : decode cX3_drawArrows 26 = .ok (.istore_n 2, 1) := by decide +kernel
theorem dX3_drawArrows_27 : decode cX3_drawArrows 27 = .ok (.aload_n 0, 1) := by decide +kernel
theorem dX3_drawArrows_28 : decode cX3_drawArrows 28 = .ok (.getfield 11, 3) := by decide +kernel
theorem dX3_drawArrows_31 : decode cX3_drawArrows 31 = .ok (.iconst 3, 1) := by decide +kernel
theorem dX3_drawArrows_32 : decode cX3_drawArrows 32 = .ok (.iload_n 1, 1) := by decide +kernel
theorem dX3_drawArrows_33 : decode cX3_drawArrows 33 = .ok (.imul, 1) := by decide +kernel
theorem dX3_drawArrows_34 : decode cX3_drawArrows 34 = .ok (.iconst 1, 1) := by decide +kernel
theorem dX3_drawArrows_35 : decode cX3_drawArrows 35 = .ok (.iadd, 1) := by decide +kernel
theorem dX3_drawArrows_36 : decode cX3_drawArrows 36 = .ok (.iaload, 1) := by decide +kernel
theorem dX3_drawArrows_37 : decode cX3_drawArrows 37 = .ok (.istore_n 3, 1) := by decide +kernel
theorem dX3_drawArrows_38 : decode cX3_drawArrows 38 = .ok (.aload_n 0, 1) := by decide +kernel
theorem dX3_drawArrows_39 : decode cX3_drawArrows 39 = .ok (.getfield 11, 3) := by decide +kernel
theorem dX3_drawArrows_42 : decode cX3_drawArrows 42 = .ok (.iconst 3, 1) := by decide +kernel
theorem dX3_drawArrows_43 : decode cX3_drawArrows 43 = .ok (.iload_n 1, 1) := by decide +kernel
theorem dX3_drawArrows_44 : decode cX3_drawArrows 44 = .ok (.imul, 1) := by decide +kernel
theorem dX3_drawArrows_45 : decode cX3_drawArrows 45 = .ok (.iconst 2, 1) := by decide +kernel
theorem dX3_drawArrows_46 : decode cX3_drawArrows 46 = .ok (.iadd, 1) := by decide +kernel
theorem dX3_drawArrows_47 : decode cX3_drawArrows 47 = .ok (.iaload, 1) := by decide +kernel
theorem dX3_drawArrows_48 : decode cX3_drawArrows 48 = .ok (.istore 4, 2) := by decide +kernel
theorem dX3_drawArrows_50 : decode cX3_drawArrows 50 = .ok (.aload_n 0, 1) := by decide +kernel
theorem dX3_drawArrows_51 : decode cX3_drawArrows 51 = .ok (.getfield 18, 3) := by decide +kernel
theorem dX3_drawArrows_54 : decode cX3_drawArrows 54 = .ok (.iload_n 2, 1) := by decide +kernel
theorem dX3_drawArrows_55 : decode cX3_drawArrows 55 = .ok (.bipush 9, 2) := by decide +kernel
theorem dX3_drawArrows_57 : decode cX3_drawArrows 57 = .ok (.imul, 1) := by decide +kernel
theorem dX3_drawArrows_58 : decode cX3_drawArrows 58 = .ok (.iload_n 3, 1) := by decide +kernel
theorem dX3_drawArrows_59 : decode cX3_drawArrows 59 = .ok (.iadd, 1) := by decide +kernel
theorem dX3_drawArrows_60 : decode cX3_drawArrows 60 = .ok (.iload_n 1, 1) := by decide +kernel
theorem dX3_drawArrows_61 : decode cX3_drawArrows 61 = .ok (.iastore, 1) := by decide +kernel
theorem dX3_drawArrows_62 : decode cX3_drawArrows 62 = .ok (.aload_n 0, 1) := by decide +kernel
theorem dX3_drawArrows_63 : decode cX3_drawArrows 63 = .ok (.getfield 18, 3) := by decide +kernel
theorem dX3_drawArrows_66 : decode cX3_drawArrows 66 = .ok (.iload_n 3, 1) := by decide +kernel
theorem dX3_drawArrows_67 : decode cX3_drawArrows 67 = .ok (.bipush 9, 2) := by decide +kernel
theorem dX3_drawArrows_69 : decode cX3_drawArrows 69 = .ok (.imul, 1) := by decide +kernel
theorem dX3_drawArrows_70 : decode cX3_drawArrows 70 = .ok (.iload 4, 2) := by decide +kernel
theorem dX3_drawArrows_72 : decode cX3_drawArrows 72 = .ok (.iadd, 1) := by decide +kernel
theorem dX3_drawArrows_73 : decode cX3_drawArrows 73 = .ok (.iload_n 1, 1) := by decide +kernel
theorem dX3_drawArrows_74 : decode cX3_drawArrows 74 = .ok (.iastore, 1) := by decide +kernel
theorem dX3_drawArrows_75 : decode cX3_drawArrows 75 = .ok (.aload_n 0, 1) := by decide +kernel
theorem dX3_drawArrows_76 : decode cX3_drawArrows 76 = .ok (.getfield 18, 3) := by decide +kernel
theorem dX3_drawArrows_79 : decode cX3_drawArrows 79 = .ok (.iload 4, 2) := by decide +kernel
theorem dX3_drawArrows_81 : decode cX3_drawArrows 81 = .ok (.bipush 9, 2) := by decide +kernel
theorem dX3_drawArrows_83 : decode cX3_drawArrows 83 = .ok (.imul, 1) := by decide +kernel
theorem dX3_drawArrows_84 : decode cX3_drawArrows 84 = .ok (.iload_n 2, 1) := by decide +kernel
theorem dX3_drawArrows_85 : decode cX3_drawArrows 85 = .ok (.iadd, 1) := by decide +kernel
theorem dX3_drawArrows_86 : decode cX3_drawArrows 86 = .ok (.iload_n 1, 1) := by decide +kernel
theorem dX3_drawArrows_87 : decode cX3_drawArrows 87 = .ok (.iastore, 1) := by decide +kernel
theorem dX3_drawArrows_88 : decode cX3_drawArrows 88 = .ok (.iinc 1 1, 3) := by decide +kernel
theorem dX3_drawArrows_91 : decode cX3_drawArrows 91 = .ok (.goto (-81), 3) := by decide +kernel
theorem dX3_drawArrows_94 : decode cX3_drawArrows 94 = .ok (.return_, 1) := by decide +kernel
theorem dX3_postCount_0 : decode cX3_postCount 0 = .ok (.aload_n 0, 1) := by decide +kernel
theorem dX3_postCount_1 : decode cX3_postCount 1 = .ok (.getfield 21, 3) := by decide +kernel
theorem dX3_postCount_4 : decode cX3_postCount 4 = .ok (.ireturn, 1) := by decide +kernel
theorem dX3_thirdCount_0 : decode cX3_thirdCount 0 = .ok (.aload_n 0, 1) := by decide +kernel
theorem dX3_thirdCount_1 : decode cX3_thirdCount 1 = .ok (.getfield 25, 3) := by decide +kernel
theorem dX3_thirdCount_4 : decode cX3_thirdCount 4 = .ok (.ireturn, 1) := by decide +kernel
theorem dX3_cornerCount_0 : decode cX3_cornerCount 0 = .ok (.iconst 3, 1) := by decide +kernel
theorem dX3_cornerCount_1 : decode cX3_cornerCount 1 = .ok (.aload_n 0, 1) := by decide +kernel
theorem dX3_cornerCount_2 : decode cX3_cornerCount 2 = .ok (.getfield 25, 3) := by decide +kernel
theorem dX3_cornerCount_5 : decode cX3_cornerCount 5 = .ok (.imul, 1) := by decide +kernel
theorem dX3_cornerCount_6 : decode cX3_cornerCount 6 = .ok (.ireturn, 1) := by decide +kernel
theorem dX3_hasPost_0 : decode cX3_hasPost 0 = .ok (.iload_n 1, 1) := by decide +kernel
theorem dX3_hasPost_1 : decode cX3_hasPost 1 = .ok (.ifCond .lt 15, 3) := by decide +kernel
theorem dX3_hasPost_4 : decode cX3_hasPost 4 = .ok (.iload_n 1, 1) := by decide +kernel
theorem dX3_hasPost_5 : decode cX3_hasPost 5 = .ok (.aload_n 0, 1) := by decide +kernel
theorem dX3_hasPost_6 : decode cX3_hasPost 6 = .ok (.getfield 21, 3) := by decide +kernel
theorem dX3_hasPost_9 : decode cX3_hasPost 9 = .ok (.if_icmp .ge 7, 3) := by decide +kernel
theorem dX3_hasPost_12 : decode cX3_hasPost 12 = .ok (.iconst 1, 1) := by decide +kernel
theorem dX3_hasPost_13 : decode cX3_hasPost 13 = .ok (.goto 4, 3) := by decide +kernel
theorem dX3_hasPost_16 : decode cX3_hasPost 16 = .ok (.iconst 0, 1) := by decide +kernel
theorem dX3_hasPost_17 : decode cX3_hasPost 17 = .ok (.ireturn, 1) := by decide +kernel
theorem dX3_hasCorner_0 : decode cX3_hasCorner 0 = .ok (.iload_n 1, 1) := by decide +kernel
theorem dX3_hasCorner_1 : decode cX3_hasCorner 1 = .ok (.ifCond .lt 15, 3) := by decide +kernel
theorem dX3_hasCorner_4 : decode cX3_hasCorner 4 = .ok (.iload_n 1, 1) := by decide +kernel
theorem dX3_hasCorner_5 : decode cX3_hasCorner 5 = .ok (.aload_n 0, 1) := by decide +kernel
theorem dX3_hasCorner_6 : decode cX3_hasCorner 6 = .ok (.invokevirtual 47, 3) := by decide +kernel
theorem dX3_hasCorner_9 : decode cX3_hasCorner 9 = .ok (.if_icmp .ge 7, 3) := by decide +kernel
theorem dX3_hasCorner_12 : decode cX3_hasCorner 12 = .ok (.iconst 1, 1) := by decide +kernel
theorem dX3_hasCorner_13 : decode cX3_hasCorner 13 = .ok (.goto 4, 3) := by decide +kernel
theorem dX3_hasCorner_16 : decode cX3_hasCorner 16 = .ok (.iconst 0, 1) := by decide +kernel
theorem dX3_hasCorner_17 : decode cX3_hasCorner 17 = .ok (.ireturn, 1) := by decide +kernel
theorem dX3_areUnlike_0 : decode cX3_areUnlike 0 = .ok (.aload_n 0, 1) := by decide +kernel
theorem dX3_areUnlike_1 : decode cX3_areUnlike 1 = .ok (.iload_n 1, 1) := by decide +kernel
theorem dX3_areUnlike_2 : decode cX3_areUnlike 2 = .ok (.invokevirtual 51, 3) := by decide +kernel
theorem dX3_areUnlike_5 : decode cX3_areUnlike 5 = .ok (.ifCond .eq 20, 3) := by decide +kernel
theorem dX3_areUnlike_8 : decode cX3_areUnlike 8 = .ok (.aload_n 0, 1) := by decide +kernel
theorem dX3_areUnlike_9 : decode cX3_areUnlike 9 = .ok (.iload_n 2, 1) := by decide +kernel
theorem dX3_areUnlike_10 : decode cX3_areUnlike 10 = .ok (.invokevirtual 51, 3) := by decide +kernel
theorem dX3_areUnlike_13 : decode cX3_areUnlike 13 = .ok (.ifCond .eq 12, 3) := by decide +kernel
theorem dX3_areUnlike_16 : decode cX3_areUnlike 16 = .ok (.iload_n 1, 1) := by decide +kernel
theorem dX3_areUnlike_17 : decode cX3_areUnlike 17 = .ok (.iload_n 2, 1) := by decide +kernel
theorem dX3_areUnlike_18 : decode cX3_areUnlike 18 = .ok (.if_icmp .eq 7, 3) := by decide +kernel
theorem dX3_areUnlike_21 : decode cX3_areUnlike 21 = .ok (.iconst 1, 1) := by decide +kernel
theorem dX3_areUnlike_22 : decode cX3_areUnlike 22 = .ok (.goto 4, 3) := by decide +kernel
theorem dX3_areUnlike_25 : decode cX3_areUnlike 25 = .ok (.iconst 0, 1) := by decide +kernel
theorem dX3_areUnlike_26 : decode cX3_areUnlike 26 = .ok (.ireturn, 1) := by decide +kernel
theorem dX3_postOf_0 : decode cX3_postOf 0 = .ok (.aload_n 0, 1) := by decide +kernel
theorem dX3_postOf_1 : decode cX3_postOf 1 = .ok (.getfield 11, 3) := by decide +kernel
theorem dX3_postOf_4 : decode cX3_postOf 4 = .ok (.iload_n 1, 1) := by decide +kernel
theorem dX3_postOf_5 : decode cX3_postOf 5 = .ok (.iaload, 1) := by decide +kernel
theorem dX3_postOf_6 : decode cX3_postOf 6 = .ok (.ireturn, 1) := by decide +kernel
theorem dX3_sumOf_0 : decode cX3_sumOf 0 = .ok (.aload_n 0, 1) := by decide +kernel
theorem dX3_sumOf_1 : decode cX3_sumOf 1 = .ok (.getfield 15, 3) := by decide +kernel
theorem dX3_sumOf_4 : decode cX3_sumOf 4 = .ok (.iload_n 1, 1) := by decide +kernel
theorem dX3_sumOf_5 : decode cX3_sumOf 5 = .ok (.iaload, 1) := by decide +kernel
theorem dX3_sumOf_6 : decode cX3_sumOf 6 = .ok (.ireturn, 1) := by decide +kernel
theorem dX3_isTold_0 : decode cX3_isTold 0 = .ok (.aload_n 0, 1) := by decide +kernel
theorem dX3_isTold_1 : decode cX3_isTold 1 = .ok (.getfield 15, 3) := by decide +kernel
theorem dX3_isTold_4 : decode cX3_isTold 4 = .ok (.iload_n 1, 1) := by decide +kernel
theorem dX3_isTold_5 : decode cX3_isTold 5 = .ok (.iaload, 1) := by decide +kernel
theorem dX3_isTold_6 : decode cX3_isTold 6 = .ok (.iconst (-1), 1) := by decide +kernel
theorem dX3_isTold_7 : decode cX3_isTold 7 = .ok (.if_icmp .eq 7, 3) := by decide +kernel
theorem dX3_isTold_10 : decode cX3_isTold 10 = .ok (.iconst 1, 1) := by decide +kernel
theorem dX3_isTold_11 : decode cX3_isTold 11 = .ok (.goto 4, 3) := by decide +kernel
theorem dX3_isTold_14 : decode cX3_isTold 14 = .ok (.iconst 0, 1) := by decide +kernel
theorem dX3_isTold_15 : decode cX3_isTold 15 = .ok (.ireturn, 1) := by decide +kernel
theorem dX3_thirdWith_0 : decode cX3_thirdWith 0 = .ok (.aload_n 0, 1) := by decide +kernel
theorem dX3_thirdWith_1 : decode cX3_thirdWith 1 = .ok (.getfield 18, 3) := by decide +kernel
theorem dX3_thirdWith_4 : decode cX3_thirdWith 4 = .ok (.iload_n 1, 1) := by decide +kernel
theorem dX3_thirdWith_5 : decode cX3_thirdWith 5 = .ok (.bipush 9, 2) := by decide +kernel
theorem dX3_thirdWith_7 : decode cX3_thirdWith 7 = .ok (.imul, 1) := by decide +kernel
theorem dX3_thirdWith_8 : decode cX3_thirdWith 8 = .ok (.iload_n 2, 1) := by decide +kernel
theorem dX3_thirdWith_9 : decode cX3_thirdWith 9 = .ok (.iadd, 1) := by decide +kernel
theorem dX3_thirdWith_10 : decode cX3_thirdWith 10 = .ok (.iaload, 1) := by decide +kernel
theorem dX3_thirdWith_11 : decode cX3_thirdWith 11 = .ok (.ireturn, 1) := by decide +kernel
theorem dX3_hasArrow_0 : decode cX3_hasArrow 0 = .ok (.aload_n 0, 1) := by decide +kernel
theorem dX3_hasArrow_1 : decode cX3_hasArrow 1 = .ok (.iload_n 1, 1) := by decide +kernel
theorem dX3_hasArrow_2 : decode cX3_hasArrow 2 = .ok (.iload_n 2, 1) := by decide +kernel
theorem dX3_hasArrow_3 : decode cX3_hasArrow 3 = .ok (.invokevirtual 55, 3) := by decide +kernel
theorem dX3_hasArrow_6 : decode cX3_hasArrow 6 = .ok (.iconst (-1), 1) := by decide +kernel
theorem dX3_hasArrow_7 : decode cX3_hasArrow 7 = .ok (.if_icmp .eq 7, 3) := by decide +kernel
theorem dX3_hasArrow_10 : decode cX3_hasArrow 10 = .ok (.iconst 1, 1) := by decide +kernel
theorem dX3_hasArrow_11 : decode cX3_hasArrow 11 = .ok (.goto 4, 3) := by decide +kernel
theorem dX3_hasArrow_14 : decode cX3_hasArrow 14 = .ok (.iconst 0, 1) := by decide +kernel
theorem dX3_hasArrow_15 : decode cX3_hasArrow 15 = .ok (.ireturn, 1) := by decide +kernel
theorem dX3_thirdsAtSide_0 : decode cX3_thirdsAtSide 0 = .ok (.aload_n 0, 1) := by decide +kernel
theorem dX3_thirdsAtSide_1 : decode cX3_thirdsAtSide 1 = .ok (.iload_n 1, 1) := by decide +kernel
theorem dX3_thirdsAtSide_2 : decode cX3_thirdsAtSide 2 = .ok (.iload_n 2, 1) := by decide +kernel
theorem dX3_thirdsAtSide_3 : decode cX3_thirdsAtSide 3 = .ok (.invokevirtual 58, 3) := by decide +kernel
theorem dX3_thirdsAtSide_6 : decode cX3_thirdsAtSide 6 = .ok (.ifCond .eq 7, 3) := by decide +kernel
theorem dX3_thirdsAtSide_9 : decode cX3_thirdsAtSide 9 = .ok (.iconst 1, 1) := by decide +kernel
theorem dX3_thirdsAtSide_10 : decode cX3_thirdsAtSide 10 = .ok (.goto 4, 3) := by decide +kernel
theorem dX3_thirdsAtSide_13 : decode cX3_thirdsAtSide 13 = .ok (.iconst 0, 1) := by decide +kernel
theorem dX3_thirdsAtSide_14 : decode cX3_thirdsAtSide 14 = .ok (.aload_n 0, 1) := by decide +kernel
theorem dX3_thirdsAtSide_15 : decode cX3_thirdsAtSide 15 = .ok (.iload_n 2, 1) := by decide +kernel
theorem dX3_thirdsAtSide_16 : decode cX3_thirdsAtSide 16 = .ok (.iload_n 1, 1) := by decide +kernel
theorem dX3_thirdsAtSide_17 : decode cX3_thirdsAtSide 17 = .ok (.invokevirtual 58, 3) := by decide +kernel
theorem dX3_thirdsAtSide_20 : decode cX3_thirdsAtSide 20 = .ok (.ifCond .eq 7, 3) := by decide +kernel
theorem dX3_thirdsAtSide_23 : decode cX3_thirdsAtSide 23 = .ok (.iconst 1, 1) := by decide +kernel
theorem dX3_thirdsAtSide_24 : decode cX3_thirdsAtSide 24 = .ok (.goto 4, 3) := by decide +kernel
theorem dX3_thirdsAtSide_27 : decode cX3_thirdsAtSide 27 = .ok (.iconst 0, 1) := by decide +kernel
theorem dX3_thirdsAtSide_28 : decode cX3_thirdsAtSide 28 = .ok (.iadd, 1) := by decide +kernel
theorem dX3_thirdsAtSide_29 : decode cX3_thirdsAtSide 29 = .ok (.ireturn, 1) := by decide +kernel
theorem dX3_isSide_0 : decode cX3_isSide 0 = .ok (.aload_n 0, 1) := by decide +kernel
theorem dX3_isSide_1 : decode cX3_isSide 1 = .ok (.iload_n 1, 1) := by decide +kernel
theorem dX3_isSide_2 : decode cX3_isSide 2 = .ok (.iload_n 2, 1) := by decide +kernel
theorem dX3_isSide_3 : decode cX3_isSide 3 = .ok (.invokevirtual 62, 3) := by decide +kernel
theorem dX3_isSide_6 : decode cX3_isSide 6 = .ok (.ifCond .eq 16, 3) := by decide +kernel
theorem dX3_isSide_9 : decode cX3_isSide 9 = .ok (.aload_n 0, 1) := by decide +kernel
theorem dX3_isSide_10 : decode cX3_isSide 10 = .ok (.iload_n 1, 1) := by decide +kernel
theorem dX3_isSide_11 : decode cX3_isSide 11 = .ok (.iload_n 2, 1) := by decide +kernel
theorem dX3_isSide_12 : decode cX3_isSide 12 = .ok (.invokevirtual 65, 3) := by decide +kernel
theorem dX3_isSide_15 : decode cX3_isSide 15 = .ok (.ifCond .le 7, 3) := by decide +kernel
theorem dX3_isSide_18 : decode cX3_isSide 18 = .ok (.iconst 1, 1) := by decide +kernel
theorem dX3_isSide_19 : decode cX3_isSide 19 = .ok (.goto 4, 3) := by decide +kernel
theorem dX3_isSide_22 : decode cX3_isSide 22 = .ok (.iconst 0, 1) := by decide +kernel
theorem dX3_isSide_23 : decode cX3_isSide 23 = .ok (.ireturn, 1) := by decide +kernel
theorem dX3_cornerOpposite_0 : decode cX3_cornerOpposite 0 = .ok (.iconst 3, 1) := by decide +kernel
theorem dX3_cornerOpposite_1 : decode cX3_cornerOpposite 1 = .ok (.iload_n 1, 1) := by decide +kernel
theorem dX3_cornerOpposite_2 : decode cX3_cornerOpposite 2 = .ok (.imul, 1) := by decide +kernel
theorem dX3_cornerOpposite_3 : decode cX3_cornerOpposite 3 = .ok (.istore 4, 2) := by decide +kernel
theorem dX3_cornerOpposite_5 : decode cX3_cornerOpposite 5 = .ok (.iconst 0, 1) := by decide +kernel
theorem dX3_cornerOpposite_6 : decode cX3_cornerOpposite 6 = .ok (.istore 5, 2) := by decide +kernel
theorem dX3_cornerOpposite_8 : decode cX3_cornerOpposite 8 = .ok (.iload 5, 2) := by decide +kernel
theorem dX3_cornerOpposite_10 : decode cX3_cornerOpposite 10 = .ok (.iconst 2, 1) := by decide +kernel
theorem dX3_cornerOpposite_11 : decode cX3_cornerOpposite 11 = .ok (.if_icmp .ge 34, 3) := by decide +kernel
theorem dX3_cornerOpposite_14 : decode cX3_cornerOpposite 14 = .ok (.aload_n 0, 1) := by decide +kernel
theorem dX3_cornerOpposite_15 : decode cX3_cornerOpposite 15 = .ok (.getfield 11, 3) := by decide +kernel
theorem dX3_cornerOpposite_18 : decode cX3_cornerOpposite 18 = .ok (.iload 4, 2) := by decide +kernel
theorem dX3_cornerOpposite_20 : decode cX3_cornerOpposite 20 = .ok (.iaload, 1) := by decide +kernel
theorem dX3_cornerOpposite_21 : decode cX3_cornerOpposite 21 = .ok (.iload_n 2, 1) := by decide +kernel
theorem dX3_cornerOpposite_22 : decode cX3_cornerOpposite 22 = .ok (.if_icmp .eq 14, 3) := by decide +kernel
theorem dX3_cornerOpposite_25 : decode cX3_cornerOpposite 25 = .ok (.aload_n 0, 1) := by decide +kernel
theorem dX3_cornerOpposite_26 : decode cX3_cornerOpposite 26 = .ok (.getfield 11, 3) := by decide +kernel
theorem dX3_cornerOpposite_29 : decode cX3_cornerOpposite 29 = .ok (.iload 4, 2) := by decide +kernel
theorem dX3_cornerOpposite_31 : decode cX3_cornerOpposite 31 = .ok (.iaload, 1) := by decide +kernel
theorem dX3_cornerOpposite_32 : decode cX3_cornerOpposite 32 = .ok (.iload_n 3, 1) := by decide +kernel
theorem dX3_cornerOpposite_33 : decode cX3_cornerOpposite 33 = .ok (.if_icmp .ne 12, 3) := by decide +kernel
theorem dX3_cornerOpposite_36 : decode cX3_cornerOpposite 36 = .ok (.iinc 4 1, 3) := by decide +kernel
theorem dX3_cornerOpposite_39 : decode cX3_cornerOpposite 39 = .ok (.iinc 5 1, 3) := by decide +kernel
theorem dX3_cornerOpposite_42 : decode cX3_cornerOpposite 42 = .ok (.goto (-34), 3) := by decide +kernel
theorem dX3_cornerOpposite_45 : decode cX3_cornerOpposite 45 = .ok (.iload 4, 2) := by decide +kernel
theorem dX3_cornerOpposite_47 : decode cX3_cornerOpposite 47 = .ok (.ireturn, 1) := by decide +kernel
theorem dX3_cornersAt_0 : decode cX3_cornersAt 0 = .ok (.iconst 0, 1) := by decide +kernel
theorem dX3_cornersAt_1 : decode cX3_cornersAt 1 = .ok (.istore_n 2, 1) := by decide +kernel
theorem dX3_cornersAt_2 : decode cX3_cornersAt 2 = .ok (.iconst 0, 1) := by decide +kernel
theorem dX3_cornersAt_3 : decode cX3_cornersAt 3 = .ok (.istore_n 3, 1) := by decide +kernel
theorem dX3_cornersAt_4 : decode cX3_cornersAt 4 = .ok (.iload_n 3, 1) := by decide +kernel
theorem dX3_cornersAt_5 : decode cX3_cornersAt 5 = .ok (.aload_n 0, 1) := by decide +kernel
theorem dX3_cornersAt_6 : decode cX3_cornersAt 6 = .ok (.invokevirtual 47, 3) := by decide +kernel
theorem dX3_cornersAt_9 : decode cX3_cornersAt 9 = .ok (.if_icmp .ge 22, 3) := by decide +kernel
theorem dX3_cornersAt_12 : decode cX3_cornersAt 12 = .ok (.aload_n 0, 1) := by decide +kernel
theorem dX3_cornersAt_13 : decode cX3_cornersAt 13 = .ok (.getfield 11, 3) := by decide +kernel
theorem dX3_cornersAt_16 : decode cX3_cornersAt 16 = .ok (.iload_n 3, 1) := by decide +kernel
theorem dX3_cornersAt_17 : decode cX3_cornersAt 17 = .ok (.iaload, 1) := by decide +kernel
theorem dX3_cornersAt_18 : decode cX3_cornersAt 18 = .ok (.iload_n 1, 1) := by decide +kernel
theorem dX3_cornersAt_19 : decode cX3_cornersAt 19 = .ok (.if_icmp .ne 6, 3) := by decide +kernel
theorem dX3_cornersAt_22 : decode cX3_cornersAt 22 = .ok (.iinc 2 1, 3) := by decide +kernel
theorem dX3_cornersAt_25 : decode cX3_cornersAt 25 = .ok (.iinc 3 1, 3) := by decide +kernel
theorem dX3_cornersAt_28 : decode cX3_cornersAt 28 = .ok (.goto (-24), 3) := by decide +kernel
theorem dX3_cornersAt_31 : decode cX3_cornersAt 31 = .ok (.iload_n 2, 1) := by decide +kernel
theorem dX3_cornersAt_32 : decode cX3_cornersAt 32 = .ok (.ireturn, 1) := by decide +kernel
theorem dX3_sidesAt_0 : decode cX3_sidesAt 0 = .ok (.iconst 0, 1) := by decide +kernel
theorem dX3_sidesAt_1 : decode cX3_sidesAt 1 = .ok (.istore_n 3, 1) := by decide +kernel
theorem dX3_sidesAt_2 : decode cX3_sidesAt 2 = .ok (.iconst 0, 1) := by decide +kernel
theorem dX3_sidesAt_3 : decode cX3_sidesAt 3 = .ok (.istore 4, 2) := by decide +kernel
theorem dX3_sidesAt_5 : decode cX3_sidesAt 5 = .ok (.iload 4, 2) := by decide +kernel
theorem dX3_sidesAt_7 : decode cX3_sidesAt 7 = .ok (.aload_n 0, 1) := by decide +kernel
theorem dX3_sidesAt_8 : decode cX3_sidesAt 8 = .ok (.getfield 21, 3) := by decide +kernel
theorem dX3_sidesAt_11 : decode cX3_sidesAt 11 = .ok (.if_icmp .ge 29, 3) := by decide +kernel
theorem dX3_sidesAt_14 : decode cX3_sidesAt 14 = .ok (.iload 4, 2) := by decide +kernel
theorem dX3_sidesAt_16 : decode cX3_sidesAt 16 = .ok (.iload_n 1, 1) := by decide +kernel
theorem dX3_sidesAt_17 : decode cX3_sidesAt 17 = .ok (.if_icmp .eq 17, 3) := by decide +kernel
theorem dX3_sidesAt_20 : decode cX3_sidesAt 20 = .ok (.aload_n 0, 1) := by decide +kernel
theorem dX3_sidesAt_21 : decode cX3_sidesAt 21 = .ok (.iload_n 1, 1) := by decide +kernel
theorem dX3_sidesAt_22 : decode cX3_sidesAt 22 = .ok (.iload 4, 2) := by decide +kernel
theorem dX3_sidesAt_24 : decode cX3_sidesAt 24 = .ok (.invokevirtual 65, 3) := by decide +kernel
theorem dX3_sidesAt_27 : decode cX3_sidesAt 27 = .ok (.iload_n 2, 1) := by decide +kernel
theorem dX3_sidesAt_28 : decode cX3_sidesAt 28 = .ok (.if_icmp .ne 6, 3) := by decide +kernel
theorem dX3_sidesAt_31 : decode cX3_sidesAt 31 = .ok (.iinc 3 1, 3) := by decide +kernel
theorem dX3_sidesAt_34 : decode cX3_sidesAt 34 = .ok (.iinc 4 1, 3) := by decide +kernel
theorem dX3_sidesAt_37 : decode cX3_sidesAt 37 = .ok (.goto (-32), 3) := by decide +kernel
theorem dX3_sidesAt_40 : decode cX3_sidesAt 40 = .ok (.iload_n 3, 1) := by decide +kernel
theorem dX3_sidesAt_41 : decode cX3_sidesAt 41 = .ok (.ireturn, 1) := by decide +kernel
theorem dX3_sidesWith_0 : decode cX3_sidesWith 0 = .ok (.iconst 0, 1) := by decide +kernel
theorem dX3_sidesWith_1 : decode cX3_sidesWith 1 = .ok (.istore_n 2, 1) := by decide +kernel
theorem dX3_sidesWith_2 : decode cX3_sidesWith 2 = .ok (.iconst 0, 1) := by decide +kernel
theorem dX3_sidesWith_3 : decode cX3_sidesWith 3 = .ok (.istore_n 3, 1) := by decide +kernel
theorem dX3_sidesWith_4 : decode cX3_sidesWith 4 = .ok (.iload_n 3, 1) := by decide +kernel
theorem dX3_sidesWith_5 : decode cX3_sidesWith 5 = .ok (.aload_n 0, 1) := by decide +kernel
theorem dX3_sidesWith_6 : decode cX3_sidesWith 6 = .ok (.getfield 21, 3) := by decide +kernel
theorem dX3_sidesWith_9 : decode cX3_sidesWith 9 = .ok (.if_icmp .ge 18, 3) := by decide +kernel
theorem dX3_sidesWith_12 : decode cX3_sidesWith 12 = .ok (.iload_n 2, 1) := by decide +kernel
theorem dX3_sidesWith_13 : decode cX3_sidesWith 13 = .ok (.aload_n 0, 1) := by decide +kernel
theorem dX3_sidesWith_14 : decode cX3_sidesWith 14 = .ok (.iload_n 3, 1) := by decide +kernel
theorem dX3_sidesWith_15 : decode cX3_sidesWith 15 = .ok (.iload_n 1, 1) := by decide +kernel
theorem dX3_sidesWith_16 : decode cX3_sidesWith 16 = .ok (.invokevirtual 68, 3) := by decide +kernel
theorem dX3_sidesWith_19 : decode cX3_sidesWith 19 = .ok (.iadd, 1) := by decide +kernel
theorem dX3_sidesWith_20 : decode cX3_sidesWith 20 = .ok (.istore_n 2, 1) := by decide +kernel
theorem dX3_sidesWith_21 : decode cX3_sidesWith 21 = .ok (.iinc 3 1, 3) := by decide +kernel
theorem dX3_sidesWith_24 : decode cX3_sidesWith 24 = .ok (.goto (-20), 3) := by decide +kernel
theorem dX3_sidesWith_27 : decode cX3_sidesWith 27 = .ok (.iload_n 2, 1) := by decide +kernel
theorem dX3_sidesWith_28 : decode cX3_sidesWith 28 = .ok (.iconst 2, 1) := by decide +kernel
theorem dX3_sidesWith_29 : decode cX3_sidesWith 29 = .ok (.idiv, 1) := by decide +kernel
theorem dX3_sidesWith_30 : decode cX3_sidesWith 30 = .ok (.ireturn, 1) := by decide +kernel
theorem dX3_isFreeOfRim_0 : decode cX3_isFreeOfRim 0 = .ok (.aload_n 0, 1) := by decide +kernel
theorem dX3_isFreeOfRim_1 : decode cX3_isFreeOfRim 1 = .ok (.iload_n 1, 1) := by decide +kernel
theorem dX3_isFreeOfRim_2 : decode cX3_isFreeOfRim 2 = .ok (.invokevirtual 71, 3) := by decide +kernel
theorem dX3_isFreeOfRim_5 : decode cX3_isFreeOfRim 5 = .ok (.ifCond .le 16, 3) := by decide +kernel
theorem dX3_isFreeOfRim_8 : decode cX3_isFreeOfRim 8 = .ok (.aload_n 0, 1) := by decide +kernel
theorem dX3_isFreeOfRim_9 : decode cX3_isFreeOfRim 9 = .ok (.iload_n 1, 1) := by decide +kernel
theorem dX3_isFreeOfRim_10 : decode cX3_isFreeOfRim 10 = .ok (.iconst 1, 1) := by decide +kernel
theorem dX3_isFreeOfRim_11 : decode cX3_isFreeOfRim 11 = .ok (.invokevirtual 68, 3) := by decide +kernel
theorem dX3_isFreeOfRim_14 : decode cX3_isFreeOfRim 14 = .ok (.ifCond .ne 7, 3) := by decide +kernel
theorem dX3_isFreeOfRim_17 : decode cX3_isFreeOfRim 17 = .ok (.iconst 1, 1) := by decide +kernel
theorem dX3_isFreeOfRim_18 : decode cX3_isFreeOfRim 18 = .ok (.goto 4, 3) := by decide +kernel
theorem dX3_isFreeOfRim_21 : decode cX3_isFreeOfRim 21 = .ok (.iconst 0, 1) := by decide +kernel
theorem dX3_isFreeOfRim_22 : decode cX3_isFreeOfRim 22 = .ok (.ireturn, 1) := by decide +kernel
theorem dX3_isRound_0 : decode cX3_isRound 0 = .ok (.aload_n 0, 1) := by decide +kernel
theorem dX3_isRound_1 : decode cX3_isRound 1 = .ok (.iload_n 1, 1) := by decide +kernel
theorem dX3_isRound_2 : decode cX3_isRound 2 = .ok (.invokevirtual 75, 3) := by decide +kernel
theorem dX3_isRound_5 : decode cX3_isRound 5 = .ok (.istore_n 2, 1) := by decide +kernel
theorem dX3_isRound_6 : decode cX3_isRound 6 = .ok (.iload_n 2, 1) := by decide +kernel
theorem dX3_isRound_7 : decode cX3_isRound 7 = .ok (.ifCond .eq 20, 3) := by decide +kernel
theorem dX3_isRound_10 : decode cX3_isRound 10 = .ok (.aload_n 0, 1) := by decide +kernel
theorem dX3_isRound_11 : decode cX3_isRound 11 = .ok (.iload_n 2, 1) := by decide +kernel
theorem dX3_isRound_12 : decode cX3_isRound 12 = .ok (.iload_n 2, 1) := by decide +kernel
theorem dX3_isRound_13 : decode cX3_isRound 13 = .ok (.ineg, 1) := by decide +kernel
theorem dX3_isRound_14 : decode cX3_isRound 14 = .ok (.iand, 1) := by decide +kernel
theorem dX3_isRound_15 : decode cX3_isRound 15 = .ok (.iload_n 1, 1) := by decide +kernel
theorem dX3_isRound_16 : decode cX3_isRound 16 = .ok (.invokevirtual 78, 3) := by decide +kernel
theorem dX3_isRound_19 : decode cX3_isRound 19 = .ok (.iload_n 2, 1) := by decide +kernel
theorem dX3_isRound_20 : decode cX3_isRound 20 = .ok (.if_icmp .ne 7, 3) := by decide +kernel
theorem dX3_isRound_23 : decode cX3_isRound 23 = .ok (.iconst 1, 1) := by decide +kernel
theorem dX3_isRound_24 : decode cX3_isRound 24 = .ok (.goto 4, 3) := by decide +kernel
theorem dX3_isRound_27 : decode cX3_isRound 27 = .ok (.iconst 0, 1) := by decide +kernel
theorem dX3_isRound_28 : decode cX3_isRound 28 = .ok (.ireturn, 1) := by decide +kernel
theorem dX3_character_0 : decode cX3_character 0 = .ok (.iconst 0, 1) := by decide +kernel
theorem dX3_character_1 : decode cX3_character 1 = .ok (.istore_n 1, 1) := by decide +kernel
theorem dX3_character_2 : decode cX3_character 2 = .ok (.iconst 0, 1) := by decide +kernel
theorem dX3_character_3 : decode cX3_character 3 = .ok (.istore_n 2, 1) := by decide +kernel
theorem dX3_character_4 : decode cX3_character 4 = .ok (.iload_n 2, 1) := by decide +kernel
theorem dX3_character_5 : decode cX3_character 5 = .ok (.aload_n 0, 1) := by decide +kernel
theorem dX3_character_6 : decode cX3_character 6 = .ok (.getfield 21, 3) := by decide +kernel
theorem dX3_character_9 : decode cX3_character 9 = .ok (.if_icmp .ge 20, 3) := by decide +kernel
theorem dX3_character_12 : decode cX3_character 12 = .ok (.aload_n 0, 1) := by decide +kernel
theorem dX3_character_13 : decode cX3_character 13 = .ok (.iload_n 2, 1) := by decide +kernel
theorem dX3_character_14 : decode cX3_character 14 = .ok (.invokevirtual 71, 3) := by decide +kernel
theorem dX3_character_17 : decode cX3_character 17 = .ok (.ifCond .le 6, 3) := by decide +kernel
theorem dX3_character_20 : decode cX3_character 20 = .ok (.iinc 1 1, 3) := by decide +kernel
theorem dX3_character_23 : decode cX3_character 23 = .ok (.iinc 2 1, 3) := by decide +kernel
theorem dX3_character_26 : decode cX3_character 26 = .ok (.goto (-22), 3) := by decide +kernel
theorem dX3_character_29 : decode cX3_character 29 = .ok (.iload_n 1, 1) := by decide +kernel
theorem dX3_character_30 : decode cX3_character 30 = .ok (.aload_n 0, 1) := by decide +kernel
theorem dX3_character_31 : decode cX3_character 31 = .ok (.iconst 1, 1) := by decide +kernel
theorem dX3_character_32 : decode cX3_character 32 = .ok (.invokevirtual 81, 3) := by decide +kernel
theorem dX3_character_35 : decode cX3_character 35 = .ok (.isub, 1) := by decide +kernel
theorem dX3_character_36 : decode cX3_character 36 = .ok (.aload_n 0, 1) := by decide +kernel
theorem dX3_character_37 : decode cX3_character 37 = .ok (.iconst 2, 1) := by decide +kernel
theorem dX3_character_38 : decode cX3_character 38 = .ok (.invokevirtual 81, 3) := by decide +kernel
theorem dX3_character_41 : decode cX3_character 41 = .ok (.isub, 1) := by decide +kernel
theorem dX3_character_42 : decode cX3_character 42 = .ok (.aload_n 0, 1) := by decide +kernel
theorem dX3_character_43 : decode cX3_character 43 = .ok (.getfield 25, 3) := by decide +kernel
theorem dX3_character_46 : decode cX3_character 46 = .ok (.iadd, 1) := by decide +kernel
theorem dX3_character_47 : decode cX3_character 47 = .ok (.ireturn, 1) := by decide +kernel
theorem dX3_pieces_0 : decode cX3_pieces 0 = .ok (.iconst 0, 1) := by decide +kernel
theorem dX3_pieces_1 : decode cX3_pieces 1 = .ok (.istore_n 1, 1) := by decide +kernel
theorem dX3_pieces_2 : decode cX3_pieces 2 = .ok (.iconst 1, 1) := by decide +kernel
theorem dX3_pieces_3 : decode cX3_pieces 3 = .ok (.aload_n 0, 1) := by decide +kernel
theorem dX3_pieces_4 : decode cX3_pieces 4 = .ok (.getfield 25, 3) := by decide +kernel
theorem dX3_pieces_7 : decode cX3_pieces 7 = .ok (.ishl, 1) := by decide +kernel
theorem dX3_pieces_8 : decode cX3_pieces 8 = .ok (.iconst 1, 1) := by decide +kernel
theorem dX3_pieces_9 : decode cX3_pieces 9 = .ok (.isub, 1) := by decide +kernel
theorem dX3_pieces_10 : decode cX3_pieces 10 = .ok (.istore_n 2, 1) := by decide +kernel
theorem dX3_pieces_11 : decode cX3_pieces 11 = .ok (.iconst 0, 1) := by decide +kernel
theorem dX3_pieces_12 : decode cX3_pieces 12 = .ok (.istore_n 3, 1) := by decide +kernel
theorem dX3_pieces_13 : decode cX3_pieces 13 = .ok (.iload_n 3, 1) := by decide +kernel
theorem dX3_pieces_14 : decode cX3_pieces 14 = .ok (.bipush 12, 2) := by decide +kernel
theorem dX3_pieces_16 : decode cX3_pieces 16 = .ok (.if_icmp .ge 30, 3) := by decide +kernel
theorem dX3_pieces_19 : decode cX3_pieces 19 = .ok (.iload_n 2, 1) := by decide +kernel
theorem dX3_pieces_20 : decode cX3_pieces 20 = .ok (.ifCond .eq 26, 3) := by decide +kernel
theorem dX3_pieces_23 : decode cX3_pieces 23 = .ok (.iload_n 2, 1) := by decide +kernel
theorem dX3_pieces_24 : decode cX3_pieces 24 = .ok (.aload_n 0, 1) := by decide +kernel
theorem dX3_pieces_25 : decode cX3_pieces 25 = .ok (.iload_n 2, 1) := by decide +kernel
theorem dX3_pieces_26 : decode cX3_pieces 26 = .ok (.iload_n 2, 1) := by decide +kernel
theorem dX3_pieces_27 : decode cX3_pieces 27 = .ok (.ineg, 1) := by decide +kernel
theorem dX3_pieces_28 : decode cX3_pieces 28 = .ok (.iand, 1) := by decide +kernel
theorem dX3_pieces_29 : decode cX3_pieces 29 = .ok (.iconst (-1), 1) := by decide +kernel
theorem dX3_pieces_30 : decode cX3_pieces 30 = .ok (.invokevirtual 78, 3) := by decide +kernel
theorem dX3_pieces_33 : decode cX3_pieces 33 = .ok (.iconst (-1), 1) := by decide +kernel
theorem dX3_pieces_34 : decode cX3_pieces 34 = .ok (.ixor, 1) := by decide +kernel
theorem dX3_pieces_35 : decode cX3_pieces 35 = .ok (.iand, 1) := by decide +kernel
theorem dX3_pieces_36 : decode cX3_pieces 36 = .ok (.istore_n 2, 1) := by decide +kernel
theorem dX3_pieces_37 : decode cX3_pieces 37 = .ok (.iinc 1 1, 3) := by decide +kernel
theorem dX3_pieces_40 : decode cX3_pieces 40 = .ok (.iinc 3 1, 3) := by decide +kernel
theorem dX3_pieces_43 : decode cX3_pieces 43 = .ok (.goto (-30), 3) := by decide +kernel
theorem dX3_pieces_46 : decode cX3_pieces 46 = .ok (.iload_n 1, 1) := by decide +kernel
theorem dX3_pieces_47 : decode cX3_pieces 47 = .ok (.ireturn, 1) := by decide +kernel
theorem dX3_allSums_0 : decode cX3_allSums 0 = .ok (.iconst 0, 1) := by decide +kernel
theorem dX3_allSums_1 : decode cX3_allSums 1 = .ok (.istore_n 1, 1) := by decide +kernel
theorem dX3_allSums_2 : decode cX3_allSums 2 = .ok (.iconst 0, 1) := by decide +kernel
theorem dX3_allSums_3 : decode cX3_allSums 3 = .ok (.istore_n 2, 1) := by decide +kernel
theorem dX3_allSums_4 : decode cX3_allSums 4 = .ok (.iload_n 2, 1) := by decide +kernel
theorem dX3_allSums_5 : decode cX3_allSums 5 = .ok (.aload_n 0, 1) := by decide +kernel
theorem dX3_allSums_6 : decode cX3_allSums 6 = .ok (.getfield 21, 3) := by decide +kernel
theorem dX3_allSums_9 : decode cX3_allSums 9 = .ok (.if_icmp .ge 26, 3) := by decide +kernel
theorem dX3_allSums_12 : decode cX3_allSums 12 = .ok (.aload_n 0, 1) := by decide +kernel
theorem dX3_allSums_13 : decode cX3_allSums 13 = .ok (.iload_n 2, 1) := by decide +kernel
theorem dX3_allSums_14 : decode cX3_allSums 14 = .ok (.invokevirtual 84, 3) := by decide +kernel
theorem dX3_allSums_17 : decode cX3_allSums 17 = .ok (.ifCond .eq 12, 3) := by decide +kernel
theorem dX3_allSums_20 : decode cX3_allSums 20 = .ok (.iload_n 1, 1) := by decide +kernel
theorem dX3_allSums_21 : decode cX3_allSums 21 = .ok (.aload_n 0, 1) := by decide +kernel
theorem dX3_allSums_22 : decode cX3_allSums 22 = .ok (.getfield 15, 3) := by decide +kernel
theorem dX3_allSums_25 : decode cX3_allSums 25 = .ok (.iload_n 2, 1) := by decide +kernel
theorem dX3_allSums_26 : decode cX3_allSums 26 = .ok (.iaload, 1) := by decide +kernel
theorem dX3_allSums_27 : decode cX3_allSums 27 = .ok (.iadd, 1) := by decide +kernel
theorem dX3_allSums_28 : decode cX3_allSums 28 = .ok (.istore_n 1, 1) := by decide +kernel
theorem dX3_allSums_29 : decode cX3_allSums 29 = .ok (.iinc 2 1, 3) := by decide +kernel
theorem dX3_allSums_32 : decode cX3_allSums 32 = .ok (.goto (-28), 3) := by decide +kernel
theorem dX3_allSums_35 : decode cX3_allSums 35 = .ok (.iload_n 1, 1) := by decide +kernel
theorem dX3_allSums_36 : decode cX3_allSums 36 = .ok (.ireturn, 1) := by decide +kernel
theorem dX3_thirdsAt_0 : decode cX3_thirdsAt 0 = .ok (.iconst 0, 1) := by decide +kernel
theorem dX3_thirdsAt_1 : decode cX3_thirdsAt 1 = .ok (.istore_n 2, 1) := by decide +kernel
theorem dX3_thirdsAt_2 : decode cX3_thirdsAt 2 = .ok (.iconst 0, 1) := by decide +kernel
theorem dX3_thirdsAt_3 : decode cX3_thirdsAt 3 = .ok (.istore_n 3, 1) := by decide +kernel
theorem dX3_thirdsAt_4 : decode cX3_thirdsAt 4 = .ok (.iload_n 3, 1) := by decide +kernel
theorem dX3_thirdsAt_5 : decode cX3_thirdsAt 5 = .ok (.aload_n 0, 1) := by decide +kernel
theorem dX3_thirdsAt_6 : decode cX3_thirdsAt 6 = .ok (.getfield 21, 3) := by decide +kernel
theorem dX3_thirdsAt_9 : decode cX3_thirdsAt 9 = .ok (.if_icmp .ge 18, 3) := by decide +kernel
theorem dX3_thirdsAt_12 : decode cX3_thirdsAt 12 = .ok (.iload_n 2, 1) := by decide +kernel
theorem dX3_thirdsAt_13 : decode cX3_thirdsAt 13 = .ok (.aload_n 0, 1) := by decide +kernel
theorem dX3_thirdsAt_14 : decode cX3_thirdsAt 14 = .ok (.iload_n 1, 1) := by decide +kernel
theorem dX3_thirdsAt_15 : decode cX3_thirdsAt 15 = .ok (.iload_n 3, 1) := by decide +kernel
theorem dX3_thirdsAt_16 : decode cX3_thirdsAt 16 = .ok (.invokevirtual 87, 3) := by decide +kernel
theorem dX3_thirdsAt_19 : decode cX3_thirdsAt 19 = .ok (.ior, 1) := by decide +kernel
theorem dX3_thirdsAt_20 : decode cX3_thirdsAt 20 = .ok (.istore_n 2, 1) := by decide +kernel
theorem dX3_thirdsAt_21 : decode cX3_thirdsAt 21 = .ok (.iinc 3 1, 3) := by decide +kernel
theorem dX3_thirdsAt_24 : decode cX3_thirdsAt 24 = .ok (.goto (-20), 3) := by decide +kernel
theorem dX3_thirdsAt_27 : decode cX3_thirdsAt 27 = .ok (.iload_n 2, 1) := by decide +kernel
theorem dX3_thirdsAt_28 : decode cX3_thirdsAt 28 = .ok (.ireturn, 1) := by decide +kernel
theorem dX3_hangingWith_0 : decode cX3_hangingWith 0 = .ok (.iload_n 1, 1) := by decide +kernel
theorem dX3_hangingWith_1 : decode cX3_hangingWith 1 = .ok (.istore_n 3, 1) := by decide +kernel
theorem dX3_hangingWith_2 : decode cX3_hangingWith 2 = .ok (.iconst 0, 1) := by decide +kernel
theorem dX3_hangingWith_3 : decode cX3_hangingWith 3 = .ok (.istore 4, 2) := by decide +kernel
theorem dX3_hangingWith_5 : decode cX3_hangingWith 5 = .ok (.iconst 0, 1) := by decide +kernel
theorem dX3_hangingWith_6 : decode cX3_hangingWith 6 = .ok (.istore 5, 2) := by decide +kernel
theorem dX3_hangingWith_8 : decode cX3_hangingWith 8 = .ok (.iload 5, 2) := by decide +kernel
theorem dX3_hangingWith_10 : decode cX3_hangingWith 10 = .ok (.bipush 12, 2) := by decide +kernel
theorem dX3_hangingWith_12 : decode cX3_hangingWith 12 = .ok (.if_icmp .gt 55, 3) := by decide +kernel
theorem dX3_hangingWith_15 : decode cX3_hangingWith 15 = .ok (.iload_n 3, 1) := by decide +kernel
theorem dX3_hangingWith_16 : decode cX3_hangingWith 16 = .ok (.iload 4, 2) := by decide +kernel
theorem dX3_hangingWith_18 : decode cX3_hangingWith 18 = .ok (.if_icmp .eq 49, 3) := by decide +kernel
theorem dX3_hangingWith_21 : decode cX3_hangingWith 21 = .ok (.iload_n 3, 1) := by decide +kernel
theorem dX3_hangingWith_22 : decode cX3_hangingWith 22 = .ok (.istore 4, 2) := by decide +kernel
theorem dX3_hangingWith_24 : decode cX3_hangingWith 24 = .ok (.iconst 0, 1) := by decide +kernel
theorem dX3_hangingWith_25 : decode cX3_hangingWith 25 = .ok (.istore 6, 2) := by decide +kernel
theorem dX3_hangingWith_27 : decode cX3_hangingWith 27 = .ok (.iload 6, 2) := by decide +kernel
theorem dX3_hangingWith_29 : decode cX3_hangingWith 29 = .ok (.aload_n 0, 1) := by decide +kernel
theorem dX3_hangingWith_30 : decode cX3_hangingWith 30 = .ok (.getfield 21, 3) := by decide +kernel
theorem dX3_hangingWith_33 : decode cX3_hangingWith 33 = .ok (.if_icmp .ge 28, 3) := by decide +kernel
theorem dX3_hangingWith_36 : decode cX3_hangingWith 36 = .ok (.iload_n 2, 1) := by decide +kernel
theorem dX3_hangingWith_37 : decode cX3_hangingWith 37 = .ok (.iconst (-1), 1) := by decide +kernel
theorem dX3_hangingWith_38 : decode cX3_hangingWith 38 = .ok (.if_icmp .eq 9, 3) := by decide +kernel
theorem dX3_hangingWith_41 : decode cX3_hangingWith 41 = .ok (.iload_n 2, 1) := by decide +kernel
theorem dX3_hangingWith_42 : decode cX3_hangingWith 42 = .ok (.iload 6, 2) := by decide +kernel
theorem dX3_hangingWith_44 : decode cX3_hangingWith 44 = .ok (.if_icmp .ne 11, 3) := by decide +kernel
theorem dX3_hangingWith_47 : decode cX3_hangingWith 47 = .ok (.aload_n 0, 1) := by decide +kernel
theorem dX3_hangingWith_48 : decode cX3_hangingWith 48 = .ok (.iload_n 3, 1) := by decide +kernel
theorem dX3_hangingWith_49 : decode cX3_hangingWith 49 = .ok (.iload 6, 2) := by decide +kernel
theorem dX3_hangingWith_51 : decode cX3_hangingWith 51 = .ok (.invokevirtual 90, 3) := by decide +kernel
theorem dX3_hangingWith_54 : decode cX3_hangingWith 54 = .ok (.istore_n 3, 1) := by decide +kernel
theorem dX3_hangingWith_55 : decode cX3_hangingWith 55 = .ok (.iinc 6 1, 3) := by decide +kernel
theorem dX3_hangingWith_58 : decode cX3_hangingWith 58 = .ok (.goto (-31), 3) := by decide +kernel
theorem dX3_hangingWith_61 : decode cX3_hangingWith 61 = .ok (.iinc 5 1, 3) := by decide +kernel
theorem dX3_hangingWith_64 : decode cX3_hangingWith 64 = .ok (.goto (-56), 3) := by decide +kernel
theorem dX3_hangingWith_67 : decode cX3_hangingWith 67 = .ok (.iload_n 3, 1) := by decide +kernel
theorem dX3_hangingWith_68 : decode cX3_hangingWith 68 = .ok (.ireturn, 1) := by decide +kernel
theorem dX3_widened_0 : decode cX3_widened 0 = .ok (.iload_n 1, 1) := by decide +kernel
theorem dX3_widened_1 : decode cX3_widened 1 = .ok (.istore_n 3, 1) := by decide +kernel
theorem dX3_widened_2 : decode cX3_widened 2 = .ok (.iconst 0, 1) := by decide +kernel
theorem dX3_widened_3 : decode cX3_widened 3 = .ok (.istore 4, 2) := by decide +kernel
theorem dX3_widened_5 : decode cX3_widened 5 = .ok (.iload 4, 2) := by decide +kernel
theorem dX3_widened_7 : decode cX3_widened 7 = .ok (.aload_n 0, 1) := by decide +kernel
theorem dX3_widened_8 : decode cX3_widened 8 = .ok (.getfield 21, 3) := by decide +kernel
theorem dX3_widened_11 : decode cX3_widened 11 = .ok (.if_icmp .ge 38, 3) := by decide +kernel
theorem dX3_widened_14 : decode cX3_widened 14 = .ok (.aload_n 0, 1) := by decide +kernel
theorem dX3_widened_15 : decode cX3_widened 15 = .ok (.iload_n 2, 1) := by decide +kernel
theorem dX3_widened_16 : decode cX3_widened 16 = .ok (.iload 4, 2) := by decide +kernel
theorem dX3_widened_18 : decode cX3_widened 18 = .ok (.invokevirtual 87, 3) := by decide +kernel
theorem dX3_widened_21 : decode cX3_widened 21 = .ok (.aload_n 0, 1) := by decide +kernel
theorem dX3_widened_22 : decode cX3_widened 22 = .ok (.iload 4, 2) := by decide +kernel
theorem dX3_widened_24 : decode cX3_widened 24 = .ok (.iload_n 2, 1) := by decide +kernel
theorem dX3_widened_25 : decode cX3_widened 25 = .ok (.invokevirtual 87, 3) := by decide +kernel
theorem dX3_widened_28 : decode cX3_widened 28 = .ok (.ior, 1) := by decide +kernel
theorem dX3_widened_29 : decode cX3_widened 29 = .ok (.istore 5, 2) := by decide +kernel
theorem dX3_widened_31 : decode cX3_widened 31 = .ok (.iload_n 3, 1) := by decide +kernel
theorem dX3_widened_32 : decode cX3_widened 32 = .ok (.iload 5, 2) := by decide +kernel
theorem dX3_widened_34 : decode cX3_widened 34 = .ok (.iand, 1) := by decide +kernel
theorem dX3_widened_35 : decode cX3_widened 35 = .ok (.ifCond .eq 8, 3) := by decide +kernel
theorem dX3_widened_38 : decode cX3_widened 38 = .ok (.iload_n 3, 1) := by decide +kernel
theorem dX3_widened_39 : decode cX3_widened 39 = .ok (.iload 5, 2) := by decide +kernel
theorem dX3_widened_41 : decode cX3_widened 41 = .ok (.ior, 1) := by decide +kernel
theorem dX3_widened_42 : decode cX3_widened 42 = .ok (.istore_n 3, 1) := by decide +kernel
theorem dX3_widened_43 : decode cX3_widened 43 = .ok (.iinc 4 1, 3) := by decide +kernel
theorem dX3_widened_46 : decode cX3_widened 46 = .ok (.goto (-41), 3) := by decide +kernel
theorem dX3_widened_49 : decode cX3_widened 49 = .ok (.iload_n 3, 1) := by decide +kernel
theorem dX3_widened_50 : decode cX3_widened 50 = .ok (.ireturn, 1) := by decide +kernel
theorem dX3_bitOf_0 : decode cX3_bitOf 0 = .ok (.aload_n 0, 1) := by decide +kernel
theorem dX3_bitOf_1 : decode cX3_bitOf 1 = .ok (.iload_n 1, 1) := by decide +kernel
theorem dX3_bitOf_2 : decode cX3_bitOf 2 = .ok (.iload_n 2, 1) := by decide +kernel
theorem dX3_bitOf_3 : decode cX3_bitOf 3 = .ok (.invokevirtual 58, 3) := by decide +kernel
theorem dX3_bitOf_6 : decode cX3_bitOf 6 = .ok (.ifCond .eq 14, 3) := by decide +kernel
theorem dX3_bitOf_9 : decode cX3_bitOf 9 = .ok (.iconst 1, 1) := by decide +kernel
theorem dX3_bitOf_10 : decode cX3_bitOf 10 = .ok (.aload_n 0, 1) := by decide +kernel
theorem dX3_bitOf_11 : decode cX3_bitOf 11 = .ok (.iload_n 1, 1) := by decide +kernel
theorem dX3_bitOf_12 : decode cX3_bitOf 12 = .ok (.iload_n 2, 1) := by decide +kernel
theorem dX3_bitOf_13 : decode cX3_bitOf 13 = .ok (.invokevirtual 55, 3) := by decide +kernel
theorem dX3_bitOf_16 : decode cX3_bitOf 16 = .ok (.ishl, 1) := by decide +kernel
theorem dX3_bitOf_17 : decode cX3_bitOf 17 = .ok (.goto 4, 3) := by decide +kernel
theorem dX3_bitOf_20 : decode cX3_bitOf 20 = .ok (.iconst 0, 1) := by decide +kernel
theorem dX3_bitOf_21 : decode cX3_bitOf 21 = .ok (.ireturn, 1) := by decide +kernel
theorem dX4_init_0 : decode cX4_init 0 = .ok (.aload_n 0, 1) := by decide +kernel
theorem dX4_init_1 : decode cX4_init 1 = .ok (.invokespecial 3, 3) := by decide +kernel
theorem dX4_init_4 : decode cX4_init 4 = .ok (.aload_n 0, 1) := by decide +kernel
theorem dX4_init_5 : decode cX4_init 5 = .ok (.new 9, 3) := by decide +kernel
theorem dX4_init_8 : decode cX4_init 8 = .ok (.dup, 1) := by decide +kernel
theorem dX4_init_9 : decode cX4_init 9 = .ok (.invokespecial 11, 3) := by decide +kernel
theorem dX4_init_12 : decode cX4_init 12 = .ok (.putfield 12, 3) := by decide +kernel
theorem dX4_init_15 : decode cX4_init 15 = .ok (.aload_n 0, 1) := by decide +kernel
theorem dX4_init_16 : decode cX4_init 16 = .ok (.new 16, 3) := by decide +kernel
theorem dX4_init_19 : decode cX4_init 19 = .ok (.dup, 1) := by decide +kernel
theorem dX4_init_20 : decode cX4_init 20 = .ok (.invokespecial 18, 3) := by decide +kernel
theorem dX4_init_23 : decode cX4_init 23 = .ok (.putfield 19, 3) := by decide +kernel
theorem dX4_init_26 : decode cX4_init 26 = .ok (.aload_n 0, 1) := by decide +kernel
theorem dX4_init_27 : decode cX4_init 27 = .ok (.new 23, 3) := by decide +kernel
theorem dX4_init_30 : decode cX4_init 30 = .ok (.dup, 1) := by decide +kernel
theorem dX4_init_31 : decode cX4_init 31 = .ok (.aload_n 0, 1) := by decide +kernel
end
section
theorem dX4_init_32 : decode cX4_init 32 = .ok (.getfield 12, 3) := by decide +kernel
theorem dX4_init_35 : decode cX4_init 35 = .ok (.invokespecial 25, 3) := by decide +kernel
theorem dX4_init_38 : decode cX4_init 38 = .ok (.putfield 28, 3) := by decide +kernel
theorem dX4_init_41 : decode cX4_init 41 = .ok (.aload_n 0, 1) := by decide +kernel
theorem dX4_init_42 : decode cX4_init 42 = .ok (.new 32, 3) := by decide +kernel
theorem dX4_init_45 : decode cX4_init 45 = .ok (.dup, 1) := by decide +kernel
theorem dX4_init_46 : decode cX4_init 46 = .ok (.aload_n 0, 1) := by decide +kernel
theorem dX4_init_47 : decode cX4_init 47 = .ok (.getfield 12, 3) := by decide +kernel
theorem dX4_init_50 : decode cX4_init 50 = .ok (.invokespecial 34, 3) := by decide +kernel
theorem dX4_init_53 : decode cX4_init 53 = .ok (.putfield 35, 3) := by decide +kernel
theorem dX4_init_56 : decode cX4_init 56 = .ok (.aload_n 0, 1) := by decide +kernel
theorem dX4_init_57 : decode cX4_init 57 = .ok (.sipush 180, 3) := by decide +kernel
theorem dX4_init_60 : decode cX4_init 60 = .ok (.putfield 39, 3) := by decide +kernel
theorem dX4_init_63 : decode cX4_init 63 = .ok (.aload_n 0, 1) := by decide +kernel
theorem dX4_init_64 : decode cX4_init 64 = .ok (.iconst 1, 1) := by decide +kernel
theorem dX4_init_65 : decode cX4_init 65 = .ok (.putfield 43, 3) := by decide +kernel
theorem dX4_init_68 : decode cX4_init 68 = .ok (.return_, 1) := by decide +kernel
theorem dX4_posts_0 : decode cX4_posts 0 = .ok (.iload_n 1, 1) := by decide +kernel
theorem dX4_posts_1 : decode cX4_posts 1 = .ok (.iconst 3, 1) := by decide +kernel
theorem dX4_posts_2 : decode cX4_posts 2 = .ok (.if_icmp .lt 9, 3) := by decide +kernel
theorem dX4_posts_5 : decode cX4_posts 5 = .ok (.iload_n 1, 1) := by decide +kernel
theorem dX4_posts_6 : decode cX4_posts 6 = .ok (.bipush 9, 2) := by decide +kernel
theorem dX4_posts_8 : decode cX4_posts 8 = .ok (.if_icmp .le 6, 3) := by decide +kernel
theorem dX4_posts_11 : decode cX4_posts 11 = .ok (.bipush (-2), 2) := by decide +kernel
theorem dX4_posts_13 : decode cX4_posts 13 = .ok (.ireturn, 1) := by decide +kernel
theorem dX4_posts_14 : decode cX4_posts 14 = .ok (.aload_n 0, 1) := by decide +kernel
theorem dX4_posts_15 : decode cX4_posts 15 = .ok (.getfield 12, 3) := by decide +kernel
theorem dX4_posts_18 : decode cX4_posts 18 = .ok (.invokevirtual 46, 3) := by decide +kernel
theorem dX4_posts_21 : decode cX4_posts 21 = .ok (.istore_n 2, 1) := by decide +kernel
theorem dX4_posts_22 : decode cX4_posts 22 = .ok (.aload_n 0, 1) := by decide +kernel
theorem dX4_posts_23 : decode cX4_posts 23 = .ok (.getfield 12, 3) := by decide +kernel
theorem dX4_posts_26 : decode cX4_posts 26 = .ok (.iload_n 1, 1) := by decide +kernel
theorem dX4_posts_27 : decode cX4_posts 27 = .ok (.invokevirtual 50, 3) := by decide +kernel
theorem dX4_posts_30 : decode cX4_posts 30 = .ok (.aload_n 0, 1) := by decide +kernel
theorem dX4_posts_31 : decode cX4_posts 31 = .ok (.getfield 19, 3) := by decide +kernel
theorem dX4_posts_34 : decode cX4_posts 34 = .ok (.invokevirtual 54, 3) := by decide +kernel
theorem dX4_posts_37 : decode cX4_posts 37 = .ok (.aload_n 0, 1) := by decide +kernel
theorem dX4_posts_38 : decode cX4_posts 38 = .ok (.getfield 28, 3) := by decide +kernel
theorem dX4_posts_41 : decode cX4_posts 41 = .ok (.invokevirtual 57, 3) := by decide +kernel
theorem dX4_posts_44 : decode cX4_posts 44 = .ok (.iload_n 2, 1) := by decide +kernel
theorem dX4_posts_45 : decode cX4_posts 45 = .ok (.ireturn, 1) := by decide +kernel
theorem dX4_third_0 : decode cX4_third 0 = .ok (.aload_n 0, 1) := by decide +kernel
theorem dX4_third_1 : decode cX4_third 1 = .ok (.getfield 12, 3) := by decide +kernel
theorem dX4_third_4 : decode cX4_third 4 = .ok (.iload_n 1, 1) := by decide +kernel
theorem dX4_third_5 : decode cX4_third 5 = .ok (.iload_n 2, 1) := by decide +kernel
theorem dX4_third_6 : decode cX4_third 6 = .ok (.invokevirtual 60, 3) := by decide +kernel
theorem dX4_third_9 : decode cX4_third 9 = .ok (.ifCond .eq 27, 3) := by decide +kernel
theorem dX4_third_12 : decode cX4_third 12 = .ok (.aload_n 0, 1) := by decide +kernel
theorem dX4_third_13 : decode cX4_third 13 = .ok (.getfield 12, 3) := by decide +kernel
theorem dX4_third_16 : decode cX4_third 16 = .ok (.iload_n 2, 1) := by decide +kernel
theorem dX4_third_17 : decode cX4_third 17 = .ok (.iload_n 3, 1) := by decide +kernel
theorem dX4_third_18 : decode cX4_third 18 = .ok (.invokevirtual 60, 3) := by decide +kernel
theorem dX4_third_21 : decode cX4_third 21 = .ok (.ifCond .eq 15, 3) := by decide +kernel
theorem dX4_third_24 : decode cX4_third 24 = .ok (.aload_n 0, 1) := by decide +kernel
theorem dX4_third_25 : decode cX4_third 25 = .ok (.getfield 12, 3) := by decide +kernel
theorem dX4_third_28 : decode cX4_third 28 = .ok (.iload_n 3, 1) := by decide +kernel
theorem dX4_third_29 : decode cX4_third 29 = .ok (.iload_n 1, 1) := by decide +kernel
theorem dX4_third_30 : decode cX4_third 30 = .ok (.invokevirtual 60, 3) := by decide +kernel
theorem dX4_third_33 : decode cX4_third 33 = .ok (.ifCond .ne 5, 3) := by decide +kernel
theorem dX4_third_36 : decode cX4_third 36 = .ok (.iconst (-1), 1) := by decide +kernel
theorem dX4_third_37 : decode cX4_third 37 = .ok (.ireturn, 1) := by decide +kernel
theorem dX4_third_38 : decode cX4_third 38 = .ok (.aload_n 0, 1) := by decide +kernel
theorem dX4_third_39 : decode cX4_third 39 = .ok (.getfield 12, 3) := by decide +kernel
theorem dX4_third_42 : decode cX4_third 42 = .ok (.invokevirtual 64, 3) := by decide +kernel
theorem dX4_third_45 : decode cX4_third 45 = .ok (.istore 4, 2) := by decide +kernel
theorem dX4_third_47 : decode cX4_third 47 = .ok (.iload 4, 2) := by decide +kernel
theorem dX4_third_49 : decode cX4_third 49 = .ok (.bipush 12, 2) := by decide +kernel
theorem dX4_third_51 : decode cX4_third 51 = .ok (.if_icmp .lt 6, 3) := by decide +kernel
theorem dX4_third_54 : decode cX4_third 54 = .ok (.bipush (-4), 2) := by decide +kernel
theorem dX4_third_56 : decode cX4_third 56 = .ok (.ireturn, 1) := by decide +kernel
theorem dX4_third_57 : decode cX4_third 57 = .ok (.aload_n 0, 1) := by decide +kernel
theorem dX4_third_58 : decode cX4_third 58 = .ok (.getfield 12, 3) := by decide +kernel
theorem dX4_third_61 : decode cX4_third 61 = .ok (.iload_n 1, 1) := by decide +kernel
theorem dX4_third_62 : decode cX4_third 62 = .ok (.iload_n 2, 1) := by decide +kernel
theorem dX4_third_63 : decode cX4_third 63 = .ok (.invokevirtual 67, 3) := by decide +kernel
theorem dX4_third_66 : decode cX4_third 66 = .ok (.ifCond .ne 27, 3) := by decide +kernel
theorem dX4_third_69 : decode cX4_third 69 = .ok (.aload_n 0, 1) := by decide +kernel
theorem dX4_third_70 : decode cX4_third 70 = .ok (.getfield 12, 3) := by decide +kernel
theorem dX4_third_73 : decode cX4_third 73 = .ok (.iload_n 2, 1) := by decide +kernel
theorem dX4_third_74 : decode cX4_third 74 = .ok (.iload_n 3, 1) := by decide +kernel
theorem dX4_third_75 : decode cX4_third 75 = .ok (.invokevirtual 67, 3) := by decide +kernel
theorem dX4_third_78 : decode cX4_third 78 = .ok (.ifCond .ne 15, 3) := by decide +kernel
theorem dX4_third_81 : decode cX4_third 81 = .ok (.aload_n 0, 1) := by decide +kernel
theorem dX4_third_82 : decode cX4_third 82 = .ok (.getfield 12, 3) := by decide +kernel
theorem dX4_third_85 : decode cX4_third 85 = .ok (.iload_n 3, 1) := by decide +kernel
theorem dX4_third_86 : decode cX4_third 86 = .ok (.iload_n 1, 1) := by decide +kernel
theorem dX4_third_87 : decode cX4_third 87 = .ok (.invokevirtual 67, 3) := by decide +kernel
theorem dX4_third_90 : decode cX4_third 90 = .ok (.ifCond .eq 6, 3) := by decide +kernel
theorem dX4_third_93 : decode cX4_third 93 = .ok (.bipush (-5), 2) := by decide +kernel
theorem dX4_third_95 : decode cX4_third 95 = .ok (.ireturn, 1) := by decide +kernel
theorem dX4_third_96 : decode cX4_third 96 = .ok (.aload_n 0, 1) := by decide +kernel
theorem dX4_third_97 : decode cX4_third 97 = .ok (.getfield 19, 3) := by decide +kernel
theorem dX4_third_100 : decode cX4_third 100 = .ok (.invokevirtual 70, 3) := by decide +kernel
theorem dX4_third_103 : decode cX4_third 103 = .ok (.aload_n 0, 1) := by decide +kernel
theorem dX4_third_104 : decode cX4_third 104 = .ok (.getfield 19, 3) := by decide +kernel
theorem dX4_third_107 : decode cX4_third 107 = .ok (.iconst 0, 1) := by decide +kernel
theorem dX4_third_108 : decode cX4_third 108 = .ok (.iload 4, 2) := by decide +kernel
theorem dX4_third_110 : decode cX4_third 110 = .ok (.iconst (-1), 1) := by decide +kernel
theorem dX4_third_111 : decode cX4_third 111 = .ok (.iload_n 1, 1) := by decide +kernel
theorem dX4_third_112 : decode cX4_third 112 = .ok (.iload_n 2, 1) := by decide +kernel
theorem dX4_third_113 : decode cX4_third 113 = .ok (.iload_n 3, 1) := by decide +kernel
theorem dX4_third_114 : decode cX4_third 114 = .ok (.invokestatic 73, 3) := by decide +kernel
theorem dX4_third_117 : decode cX4_third 117 = .ok (.invokevirtual 77, 3) := by decide +kernel
theorem dX4_third_120 : decode cX4_third 120 = .ok (.aload_n 0, 1) := by decide +kernel
theorem dX4_third_121 : decode cX4_third 121 = .ok (.invokevirtual 81, 3) := by decide +kernel
theorem dX4_third_124 : decode cX4_third 124 = .ok (.iload 4, 2) := by decide +kernel
theorem dX4_third_126 : decode cX4_third 126 = .ok (.ireturn, 1) := by decide +kernel
theorem dX4_at_0 : decode cX4_at 0 = .ok (.aload_n 0, 1) := by decide +kernel
theorem dX4_at_1 : decode cX4_at 1 = .ok (.getfield 12, 3) := by decide +kernel
theorem dX4_at_4 : decode cX4_at 4 = .ok (.iload_n 1, 1) := by decide +kernel
theorem dX4_at_5 : decode cX4_at 5 = .ok (.invokevirtual 84, 3) := by decide +kernel
theorem dX4_at_8 : decode cX4_at 8 = .ok (.ifCond .eq 14, 3) := by decide +kernel
theorem dX4_at_11 : decode cX4_at 11 = .ok (.aload_n 0, 1) := by decide +kernel
theorem dX4_at_12 : decode cX4_at 12 = .ok (.getfield 12, 3) := by decide +kernel
theorem dX4_at_15 : decode cX4_at 15 = .ok (.iload_n 1, 1) := by decide +kernel
theorem dX4_at_16 : decode cX4_at 16 = .ok (.invokevirtual 88, 3) := by decide +kernel
theorem dX4_at_19 : decode cX4_at 19 = .ok (.goto 4, 3) := by decide +kernel
theorem dX4_at_22 : decode cX4_at 22 = .ok (.iconst (-1), 1) := by decide +kernel
theorem dX4_at_23 : decode cX4_at 23 = .ok (.ireturn, 1) := by decide +kernel
theorem dX4_side_0 : decode cX4_side 0 = .ok (.aload_n 0, 1) := by decide +kernel
theorem dX4_side_1 : decode cX4_side 1 = .ok (.getfield 12, 3) := by decide +kernel
theorem dX4_side_4 : decode cX4_side 4 = .ok (.iload_n 1, 1) := by decide +kernel
theorem dX4_side_5 : decode cX4_side 5 = .ok (.iload_n 2, 1) := by decide +kernel
theorem dX4_side_6 : decode cX4_side 6 = .ok (.invokevirtual 60, 3) := by decide +kernel
theorem dX4_side_9 : decode cX4_side 9 = .ok (.ifCond .eq 15, 3) := by decide +kernel
theorem dX4_side_12 : decode cX4_side 12 = .ok (.aload_n 0, 1) := by decide +kernel
theorem dX4_side_13 : decode cX4_side 13 = .ok (.getfield 12, 3) := by decide +kernel
theorem dX4_side_16 : decode cX4_side 16 = .ok (.iload_n 1, 1) := by decide +kernel
theorem dX4_side_17 : decode cX4_side 17 = .ok (.iload_n 2, 1) := by decide +kernel
theorem dX4_side_18 : decode cX4_side 18 = .ok (.invokevirtual 92, 3) := by decide +kernel
theorem dX4_side_21 : decode cX4_side 21 = .ok (.goto 4, 3) := by decide +kernel
theorem dX4_side_24 : decode cX4_side 24 = .ok (.iconst (-1), 1) := by decide +kernel
theorem dX4_side_25 : decode cX4_side 25 = .ok (.ireturn, 1) := by decide +kernel
theorem dX4_arrow_0 : decode cX4_arrow 0 = .ok (.aload_n 0, 1) := by decide +kernel
theorem dX4_arrow_1 : decode cX4_arrow 1 = .ok (.getfield 12, 3) := by decide +kernel
theorem dX4_arrow_4 : decode cX4_arrow 4 = .ok (.iload_n 1, 1) := by decide +kernel
theorem dX4_arrow_5 : decode cX4_arrow 5 = .ok (.iload_n 2, 1) := by decide +kernel
theorem dX4_arrow_6 : decode cX4_arrow 6 = .ok (.invokevirtual 60, 3) := by decide +kernel
theorem dX4_arrow_9 : decode cX4_arrow 9 = .ok (.ifCond .ne 5, 3) := by decide +kernel
theorem dX4_arrow_12 : decode cX4_arrow 12 = .ok (.iconst (-1), 1) := by decide +kernel
theorem dX4_arrow_13 : decode cX4_arrow 13 = .ok (.ireturn, 1) := by decide +kernel
theorem dX4_arrow_14 : decode cX4_arrow 14 = .ok (.aload_n 0, 1) := by decide +kernel
theorem dX4_arrow_15 : decode cX4_arrow 15 = .ok (.getfield 12, 3) := by decide +kernel
theorem dX4_arrow_18 : decode cX4_arrow 18 = .ok (.iload_n 1, 1) := by decide +kernel
theorem dX4_arrow_19 : decode cX4_arrow 19 = .ok (.iload_n 2, 1) := by decide +kernel
theorem dX4_arrow_20 : decode cX4_arrow 20 = .ok (.invokevirtual 67, 3) := by decide +kernel
theorem dX4_arrow_23 : decode cX4_arrow 23 = .ok (.ifCond .eq 15, 3) := by decide +kernel
theorem dX4_arrow_26 : decode cX4_arrow 26 = .ok (.aload_n 0, 1) := by decide +kernel
theorem dX4_arrow_27 : decode cX4_arrow 27 = .ok (.getfield 12, 3) := by decide +kernel
theorem dX4_arrow_30 : decode cX4_arrow 30 = .ok (.iload_n 1, 1) := by decide +kernel
theorem dX4_arrow_31 : decode cX4_arrow 31 = .ok (.iload_n 2, 1) := by decide +kernel
theorem dX4_arrow_32 : decode cX4_arrow 32 = .ok (.invokevirtual 96, 3) := by decide +kernel
theorem dX4_arrow_35 : decode cX4_arrow 35 = .ok (.goto 5, 3) := by decide +kernel
theorem dX4_arrow_38 : decode cX4_arrow 38 = .ok (.bipush (-6), 2) := by decide +kernel
theorem dX4_arrow_40 : decode cX4_arrow 40 = .ok (.ireturn, 1) := by decide +kernel
theorem dX4_turn_0 : decode cX4_turn 0 = .ok (.aload_n 0, 1) := by decide +kernel
theorem dX4_turn_1 : decode cX4_turn 1 = .ok (.getfield 12, 3) := by decide +kernel
theorem dX4_turn_4 : decode cX4_turn 4 = .ok (.iload_n 1, 1) := by decide +kernel
theorem dX4_turn_5 : decode cX4_turn 5 = .ok (.iload_n 2, 1) := by decide +kernel
theorem dX4_turn_6 : decode cX4_turn 6 = .ok (.invokevirtual 99, 3) := by decide +kernel
theorem dX4_turn_9 : decode cX4_turn 9 = .ok (.ifCond .ne 5, 3) := by decide +kernel
theorem dX4_turn_12 : decode cX4_turn 12 = .ok (.iconst (-1), 1) := by decide +kernel
theorem dX4_turn_13 : decode cX4_turn 13 = .ok (.ireturn, 1) := by decide +kernel
theorem dX4_turn_14 : decode cX4_turn 14 = .ok (.aload_n 0, 1) := by decide +kernel
theorem dX4_turn_15 : decode cX4_turn 15 = .ok (.getfield 12, 3) := by decide +kernel
theorem dX4_turn_18 : decode cX4_turn 18 = .ok (.iload_n 1, 1) := by decide +kernel
theorem dX4_turn_19 : decode cX4_turn 19 = .ok (.iload_n 2, 1) := by decide +kernel
theorem dX4_turn_20 : decode cX4_turn 20 = .ok (.invokevirtual 92, 3) := by decide +kernel
theorem dX4_turn_23 : decode cX4_turn 23 = .ok (.iconst 1, 1) := by decide +kernel
theorem dX4_turn_24 : decode cX4_turn 24 = .ok (.if_icmp .ne 6, 3) := by decide +kernel
theorem dX4_turn_27 : decode cX4_turn 27 = .ok (.bipush (-3), 2) := by decide +kernel
theorem dX4_turn_29 : decode cX4_turn 29 = .ok (.ireturn, 1) := by decide +kernel
theorem dX4_turn_30 : decode cX4_turn 30 = .ok (.aload_n 0, 1) := by decide +kernel
theorem dX4_turn_31 : decode cX4_turn 31 = .ok (.getfield 12, 3) := by decide +kernel
theorem dX4_turn_34 : decode cX4_turn 34 = .ok (.iload_n 1, 1) := by decide +kernel
theorem dX4_turn_35 : decode cX4_turn 35 = .ok (.iload_n 2, 1) := by decide +kernel
theorem dX4_turn_36 : decode cX4_turn 36 = .ok (.invokevirtual 96, 3) := by decide +kernel
theorem dX4_turn_39 : decode cX4_turn 39 = .ok (.istore_n 3, 1) := by decide +kernel
theorem dX4_turn_40 : decode cX4_turn 40 = .ok (.aload_n 0, 1) := by decide +kernel
theorem dX4_turn_41 : decode cX4_turn 41 = .ok (.getfield 12, 3) := by decide +kernel
theorem dX4_turn_44 : decode cX4_turn 44 = .ok (.iload_n 2, 1) := by decide +kernel
theorem dX4_turn_45 : decode cX4_turn 45 = .ok (.iload_n 1, 1) := by decide +kernel
theorem dX4_turn_46 : decode cX4_turn 46 = .ok (.invokevirtual 96, 3) := by decide +kernel
theorem dX4_turn_49 : decode cX4_turn 49 = .ok (.istore 4, 2) := by decide +kernel
theorem dX4_turn_51 : decode cX4_turn 51 = .ok (.aload_n 0, 1) := by decide +kernel
theorem dX4_turn_52 : decode cX4_turn 52 = .ok (.getfield 12, 3) := by decide +kernel
theorem dX4_turn_55 : decode cX4_turn 55 = .ok (.aload_n 0, 1) := by decide +kernel
theorem dX4_turn_56 : decode cX4_turn 56 = .ok (.getfield 12, 3) := by decide +kernel
theorem dX4_turn_59 : decode cX4_turn 59 = .ok (.iload_n 3, 1) := by decide +kernel
theorem dX4_turn_60 : decode cX4_turn 60 = .ok (.iload_n 1, 1) := by decide +kernel
theorem dX4_turn_61 : decode cX4_turn 61 = .ok (.iload_n 2, 1) := by decide +kernel
theorem dX4_turn_62 : decode cX4_turn 62 = .ok (.invokevirtual 102, 3) := by decide +kernel
theorem dX4_turn_65 : decode cX4_turn 65 = .ok (.invokevirtual 88, 3) := by decide +kernel
theorem dX4_turn_68 : decode cX4_turn 68 = .ok (.istore 5, 2) := by decide +kernel
theorem dX4_turn_70 : decode cX4_turn 70 = .ok (.aload_n 0, 1) := by decide +kernel
theorem dX4_turn_71 : decode cX4_turn 71 = .ok (.getfield 12, 3) := by decide +kernel
theorem dX4_turn_74 : decode cX4_turn 74 = .ok (.aload_n 0, 1) := by decide +kernel
theorem dX4_turn_75 : decode cX4_turn 75 = .ok (.getfield 12, 3) := by decide +kernel
theorem dX4_turn_78 : decode cX4_turn 78 = .ok (.iload 4, 2) := by decide +kernel
theorem dX4_turn_80 : decode cX4_turn 80 = .ok (.iload_n 1, 1) := by decide +kernel
theorem dX4_turn_81 : decode cX4_turn 81 = .ok (.iload_n 2, 1) := by decide +kernel
theorem dX4_turn_82 : decode cX4_turn 82 = .ok (.invokevirtual 102, 3) := by decide +kernel
theorem dX4_turn_85 : decode cX4_turn 85 = .ok (.invokevirtual 88, 3) := by decide +kernel
theorem dX4_turn_88 : decode cX4_turn 88 = .ok (.istore 6, 2) := by decide +kernel
theorem dX4_turn_90 : decode cX4_turn 90 = .ok (.iload 5, 2) := by decide +kernel
theorem dX4_turn_92 : decode cX4_turn 92 = .ok (.iload 6, 2) := by decide +kernel
theorem dX4_turn_94 : decode cX4_turn 94 = .ok (.if_icmp .eq 17, 3) := by decide +kernel
theorem dX4_turn_97 : decode cX4_turn 97 = .ok (.aload_n 0, 1) := by decide +kernel
theorem dX4_turn_98 : decode cX4_turn 98 = .ok (.getfield 12, 3) := by decide +kernel
theorem dX4_turn_101 : decode cX4_turn 101 = .ok (.iload 5, 2) := by decide +kernel
theorem dX4_turn_103 : decode cX4_turn 103 = .ok (.iload 6, 2) := by decide +kernel
theorem dX4_turn_105 : decode cX4_turn 105 = .ok (.invokevirtual 99, 3) := by decide +kernel
theorem dX4_turn_108 : decode cX4_turn 108 = .ok (.ifCond .eq 6, 3) := by decide +kernel
theorem dX4_turn_111 : decode cX4_turn 111 = .ok (.bipush (-5), 2) := by decide +kernel
theorem dX4_turn_113 : decode cX4_turn 113 = .ok (.ireturn, 1) := by decide +kernel
theorem dX4_turn_114 : decode cX4_turn 114 = .ok (.aload_n 0, 1) := by decide +kernel
theorem dX4_turn_115 : decode cX4_turn 115 = .ok (.getfield 19, 3) := by decide +kernel
theorem dX4_turn_118 : decode cX4_turn 118 = .ok (.invokevirtual 70, 3) := by decide +kernel
theorem dX4_turn_121 : decode cX4_turn 121 = .ok (.aload_n 0, 1) := by decide +kernel
theorem dX4_turn_122 : decode cX4_turn 122 = .ok (.getfield 19, 3) := by decide +kernel
theorem dX4_turn_125 : decode cX4_turn 125 = .ok (.iconst 0, 1) := by decide +kernel
theorem dX4_turn_126 : decode cX4_turn 126 = .ok (.iload_n 3, 1) := by decide +kernel
theorem dX4_turn_127 : decode cX4_turn 127 = .ok (.aload_n 0, 1) := by decide +kernel
theorem dX4_turn_128 : decode cX4_turn 128 = .ok (.getfield 12, 3) := by decide +kernel
theorem dX4_turn_131 : decode cX4_turn 131 = .ok (.iload_n 3, 1) := by decide +kernel
theorem dX4_turn_132 : decode cX4_turn 132 = .ok (.invokevirtual 105, 3) := by decide +kernel
theorem dX4_turn_135 : decode cX4_turn 135 = .ok (.iload_n 1, 1) := by decide +kernel
theorem dX4_turn_136 : decode cX4_turn 136 = .ok (.iload 6, 2) := by decide +kernel
theorem dX4_turn_138 : decode cX4_turn 138 = .ok (.iload 5, 2) := by decide +kernel
theorem dX4_turn_140 : decode cX4_turn 140 = .ok (.invokestatic 73, 3) := by decide +kernel
theorem dX4_turn_143 : decode cX4_turn 143 = .ok (.invokevirtual 77, 3) := by decide +kernel
theorem dX4_turn_146 : decode cX4_turn 146 = .ok (.aload_n 0, 1) := by decide +kernel
theorem dX4_turn_147 : decode cX4_turn 147 = .ok (.getfield 19, 3) := by decide +kernel
theorem dX4_turn_150 : decode cX4_turn 150 = .ok (.iconst 1, 1) := by decide +kernel
theorem dX4_turn_151 : decode cX4_turn 151 = .ok (.iload 4, 2) := by decide +kernel
theorem dX4_turn_153 : decode cX4_turn 153 = .ok (.aload_n 0, 1) := by decide +kernel
theorem dX4_turn_154 : decode cX4_turn 154 = .ok (.getfield 12, 3) := by decide +kernel
theorem dX4_turn_157 : decode cX4_turn 157 = .ok (.iload 4, 2) := by decide +kernel
theorem dX4_turn_159 : decode cX4_turn 159 = .ok (.invokevirtual 105, 3) := by decide +kernel
theorem dX4_turn_162 : decode cX4_turn 162 = .ok (.iload 6, 2) := by decide +kernel
theorem dX4_turn_164 : decode cX4_turn 164 = .ok (.iload_n 2, 1) := by decide +kernel
theorem dX4_turn_165 : decode cX4_turn 165 = .ok (.iload 5, 2) := by decide +kernel
theorem dX4_turn_167 : decode cX4_turn 167 = .ok (.invokestatic 73, 3) := by decide +kernel
theorem dX4_turn_170 : decode cX4_turn 170 = .ok (.invokevirtual 77, 3) := by decide +kernel
theorem dX4_turn_173 : decode cX4_turn 173 = .ok (.aload_n 0, 1) := by decide +kernel
theorem dX4_turn_174 : decode cX4_turn 174 = .ok (.invokevirtual 81, 3) := by decide +kernel
theorem dX4_turn_177 : decode cX4_turn 177 = .ok (.iconst 1, 1) := by decide +kernel
theorem dX4_turn_178 : decode cX4_turn 178 = .ok (.ireturn, 1) := by decide +kernel
theorem dX4_about_0 : decode cX4_about 0 = .ok (.aload_n 0, 1) := by decide +kernel
theorem dX4_about_1 : decode cX4_about 1 = .ok (.getfield 12, 3) := by decide +kernel
theorem dX4_about_4 : decode cX4_about 4 = .ok (.iload_n 1, 1) := by decide +kernel
theorem dX4_about_5 : decode cX4_about 5 = .ok (.invokevirtual 108, 3) := by decide +kernel
theorem dX4_about_8 : decode cX4_about 8 = .ok (.ifCond .ne 5, 3) := by decide +kernel
theorem dX4_about_11 : decode cX4_about 11 = .ok (.iconst (-1), 1) := by decide +kernel
theorem dX4_about_12 : decode cX4_about 12 = .ok (.ireturn, 1) := by decide +kernel
theorem dX4_about_13 : decode cX4_about 13 = .ok (.iload_n 2, 1) := by decide +kernel
theorem dX4_about_14 : decode cX4_about 14 = .ok (.tableswitch 139 0 5 #[38, 47, 67, 84, 101, 107], 38) := by decide +kernel
theorem dX4_about_52 : decode cX4_about 52 = .ok (.aload_n 0, 1) := by decide +kernel
theorem dX4_about_53 : decode cX4_about 53 = .ok (.getfield 12, 3) := by decide +kernel
theorem dX4_about_56 : decode cX4_about 56 = .ok (.iload_n 1, 1) := by decide +kernel
theorem dX4_about_57 : decode cX4_about 57 = .ok (.invokevirtual 111, 3) := by decide +kernel
theorem dX4_about_60 : decode cX4_about 60 = .ok (.ireturn, 1) := by decide +kernel
theorem dX4_about_61 : decode cX4_about 61 = .ok (.aload_n 0, 1) := by decide +kernel
theorem dX4_about_62 : decode cX4_about 62 = .ok (.getfield 12, 3) := by decide +kernel
theorem dX4_about_65 : decode cX4_about 65 = .ok (.iload_n 1, 1) := by decide +kernel
theorem dX4_about_66 : decode cX4_about 66 = .ok (.iconst 1, 1) := by decide +kernel
theorem dX4_about_67 : decode cX4_about 67 = .ok (.invokevirtual 114, 3) := by decide +kernel
theorem dX4_about_70 : decode cX4_about 70 = .ok (.aload_n 0, 1) := by decide +kernel
theorem dX4_about_71 : decode cX4_about 71 = .ok (.getfield 12, 3) := by decide +kernel
theorem dX4_about_74 : decode cX4_about 74 = .ok (.iload_n 1, 1) := by decide +kernel
theorem dX4_about_75 : decode cX4_about 75 = .ok (.iconst 2, 1) := by decide +kernel
theorem dX4_about_76 : decode cX4_about 76 = .ok (.invokevirtual 114, 3) := by decide +kernel
theorem dX4_about_79 : decode cX4_about 79 = .ok (.iadd, 1) := by decide +kernel
theorem dX4_about_80 : decode cX4_about 80 = .ok (.ireturn, 1) := by decide +kernel
theorem dX4_about_81 : decode cX4_about 81 = .ok (.aload_n 0, 1) := by decide +kernel
theorem dX4_about_82 : decode cX4_about 82 = .ok (.getfield 12, 3) := by decide +kernel
theorem dX4_about_85 : decode cX4_about 85 = .ok (.iload_n 1, 1) := by decide +kernel
theorem dX4_about_86 : decode cX4_about 86 = .ok (.invokevirtual 117, 3) := by decide +kernel
theorem dX4_about_89 : decode cX4_about 89 = .ok (.ifCond .eq 7, 3) := by decide +kernel
theorem dX4_about_92 : decode cX4_about 92 = .ok (.iconst 1, 1) := by decide +kernel
theorem dX4_about_93 : decode cX4_about 93 = .ok (.goto 4, 3) := by decide +kernel
theorem dX4_about_96 : decode cX4_about 96 = .ok (.iconst 0, 1) := by decide +kernel
theorem dX4_about_97 : decode cX4_about 97 = .ok (.ireturn, 1) := by decide +kernel
theorem dX4_about_98 : decode cX4_about 98 = .ok (.aload_n 0, 1) := by decide +kernel
theorem dX4_about_99 : decode cX4_about 99 = .ok (.getfield 12, 3) := by decide +kernel
theorem dX4_about_102 : decode cX4_about 102 = .ok (.iload_n 1, 1) := by decide +kernel
theorem dX4_about_103 : decode cX4_about 103 = .ok (.invokevirtual 120, 3) := by decide +kernel
theorem dX4_about_106 : decode cX4_about 106 = .ok (.ifCond .eq 7, 3) := by decide +kernel
theorem dX4_about_109 : decode cX4_about 109 = .ok (.iconst 1, 1) := by decide +kernel
theorem dX4_about_110 : decode cX4_about 110 = .ok (.goto 4, 3) := by decide +kernel
theorem dX4_about_113 : decode cX4_about 113 = .ok (.iconst 0, 1) := by decide +kernel
theorem dX4_about_114 : decode cX4_about 114 = .ok (.ireturn, 1) := by decide +kernel
theorem dX4_about_115 : decode cX4_about 115 = .ok (.aload_n 0, 1) := by decide +kernel
theorem dX4_about_116 : decode cX4_about 116 = .ok (.iload_n 1, 1) := by decide +kernel
theorem dX4_about_117 : decode cX4_about 117 = .ok (.invokevirtual 123, 3) := by decide +kernel
theorem dX4_about_120 : decode cX4_about 120 = .ok (.ireturn, 1) := by decide +kernel
theorem dX4_about_121 : decode cX4_about 121 = .ok (.aload_n 0, 1) := by decide +kernel
theorem dX4_about_122 : decode cX4_about 122 = .ok (.getfield 28, 3) := by decide +kernel
theorem dX4_about_125 : decode cX4_about 125 = .ok (.aload_n 0, 1) := by decide +kernel
theorem dX4_about_126 : decode cX4_about 126 = .ok (.getfield 39, 3) := by decide +kernel
theorem dX4_about_129 : decode cX4_about 129 = .ok (.aload_n 0, 1) := by decide +kernel
theorem dX4_about_130 : decode cX4_about 130 = .ok (.getfield 43, 3) := by decide +kernel
theorem dX4_about_133 : decode cX4_about 133 = .ok (.invokevirtual 126, 3) := by decide +kernel
theorem dX4_about_136 : decode cX4_about 136 = .ok (.ifCond .eq 14, 3) := by decide +kernel
theorem dX4_about_139 : decode cX4_about 139 = .ok (.aload_n 0, 1) := by decide +kernel
theorem dX4_about_140 : decode cX4_about 140 = .ok (.getfield 28, 3) := by decide +kernel
theorem dX4_about_143 : decode cX4_about 143 = .ok (.iload_n 1, 1) := by decide +kernel
theorem dX4_about_144 : decode cX4_about 144 = .ok (.invokevirtual 129, 3) := by decide +kernel
theorem dX4_about_147 : decode cX4_about 147 = .ok (.goto 5, 3) := by decide +kernel
theorem dX4_about_150 : decode cX4_about 150 = .ok (.bipush (-6), 2) := by decide +kernel
theorem dX4_about_152 : decode cX4_about 152 = .ok (.ireturn, 1) := by decide +kernel
theorem dX4_about_153 : decode cX4_about 153 = .ok (.bipush (-2), 2) := by decide +kernel
theorem dX4_about_155 : decode cX4_about 155 = .ok (.ireturn, 1) := by decide +kernel
theorem dX4_told_0 : decode cX4_told 0 = .ok (.iload_n 1, 1) := by decide +kernel
theorem dX4_told_1 : decode cX4_told 1 = .ok (.tableswitch 128 0 8 #[51, 59, 67, 85, 94, 102, 110, 115, 120], 51) := by decide +kernel
theorem dX4_told_52 : decode cX4_told 52 = .ok (.aload_n 0, 1) := by decide +kernel
theorem dX4_told_53 : decode cX4_told 53 = .ok (.getfield 12, 3) := by decide +kernel
theorem dX4_told_56 : decode cX4_told 56 = .ok (.invokevirtual 46, 3) := by decide +kernel
theorem dX4_told_59 : decode cX4_told 59 = .ok (.ireturn, 1) := by decide +kernel
theorem dX4_told_60 : decode cX4_told 60 = .ok (.aload_n 0, 1) := by decide +kernel
theorem dX4_told_61 : decode cX4_told 61 = .ok (.getfield 12, 3) := by decide +kernel
theorem dX4_told_64 : decode cX4_told 64 = .ok (.invokevirtual 64, 3) := by decide +kernel
theorem dX4_told_67 : decode cX4_told 67 = .ok (.ireturn, 1) := by decide +kernel
theorem dX4_told_68 : decode cX4_told 68 = .ok (.aload_n 0, 1) := by decide +kernel
theorem dX4_told_69 : decode cX4_told 69 = .ok (.getfield 12, 3) := by decide +kernel
theorem dX4_told_72 : decode cX4_told 72 = .ok (.iconst 1, 1) := by decide +kernel
theorem dX4_told_73 : decode cX4_told 73 = .ok (.invokevirtual 132, 3) := by decide +kernel
theorem dX4_told_76 : decode cX4_told 76 = .ok (.aload_n 0, 1) := by decide +kernel
theorem dX4_told_77 : decode cX4_told 77 = .ok (.getfield 12, 3) := by decide +kernel
theorem dX4_told_80 : decode cX4_told 80 = .ok (.iconst 2, 1) := by decide +kernel
theorem dX4_told_81 : decode cX4_told 81 = .ok (.invokevirtual 132, 3) := by decide +kernel
theorem dX4_told_84 : decode cX4_told 84 = .ok (.iadd, 1) := by decide +kernel
theorem dX4_told_85 : decode cX4_told 85 = .ok (.ireturn, 1) := by decide +kernel
theorem dX4_told_86 : decode cX4_told 86 = .ok (.aload_n 0, 1) := by decide +kernel
theorem dX4_told_87 : decode cX4_told 87 = .ok (.getfield 12, 3) := by decide +kernel
theorem dX4_told_90 : decode cX4_told 90 = .ok (.iconst 1, 1) := by decide +kernel
theorem dX4_told_91 : decode cX4_told 91 = .ok (.invokevirtual 132, 3) := by decide +kernel
theorem dX4_told_94 : decode cX4_told 94 = .ok (.ireturn, 1) := by decide +kernel
theorem dX4_told_95 : decode cX4_told 95 = .ok (.aload_n 0, 1) := by decide +kernel
theorem dX4_told_96 : decode cX4_told 96 = .ok (.getfield 12, 3) := by decide +kernel
theorem dX4_told_99 : decode cX4_told 99 = .ok (.invokevirtual 135, 3) := by decide +kernel
theorem dX4_told_102 : decode cX4_told 102 = .ok (.ireturn, 1) := by decide +kernel
theorem dX4_told_103 : decode cX4_told 103 = .ok (.aload_n 0, 1) := by decide +kernel
theorem dX4_told_104 : decode cX4_told 104 = .ok (.getfield 12, 3) := by decide +kernel
theorem dX4_told_107 : decode cX4_told 107 = .ok (.invokevirtual 138, 3) := by decide +kernel
theorem dX4_told_110 : decode cX4_told 110 = .ok (.ireturn, 1) := by decide +kernel
theorem dX4_told_111 : decode cX4_told 111 = .ok (.aload_n 0, 1) := by decide +kernel
theorem dX4_told_112 : decode cX4_told 112 = .ok (.getfield 39, 3) := by decide +kernel
theorem dX4_told_115 : decode cX4_told 115 = .ok (.ireturn, 1) := by decide +kernel
theorem dX4_told_116 : decode cX4_told 116 = .ok (.aload_n 0, 1) := by decide +kernel
theorem dX4_told_117 : decode cX4_told 117 = .ok (.getfield 43, 3) := by decide +kernel
theorem dX4_told_120 : decode cX4_told 120 = .ok (.ireturn, 1) := by decide +kernel
theorem dX4_told_121 : decode cX4_told 121 = .ok (.aload_n 0, 1) := by decide +kernel
theorem dX4_told_122 : decode cX4_told 122 = .ok (.getfield 12, 3) := by decide +kernel
theorem dX4_told_125 : decode cX4_told 125 = .ok (.invokevirtual 141, 3) := by decide +kernel
theorem dX4_told_128 : decode cX4_told 128 = .ok (.ireturn, 1) := by decide +kernel
theorem dX4_told_129 : decode cX4_told 129 = .ok (.sipush (-1002), 3) := by decide +kernel
theorem dX4_told_132 : decode cX4_told 132 = .ok (.ireturn, 1) := by decide +kernel
theorem dX4_straight_0 : decode cX4_straight 0 = .ok (.iload_n 1, 1) := by decide +kernel
theorem dX4_straight_1 : decode cX4_straight 1 = .ok (.bipush 6, 2) := by decide +kernel
theorem dX4_straight_3 : decode cX4_straight 3 = .ok (.if_icmp .lt 20, 3) := by decide +kernel
theorem dX4_straight_6 : decode cX4_straight 6 = .ok (.iload_n 1, 1) := by decide +kernel
theorem dX4_straight_7 : decode cX4_straight 7 = .ok (.sipush 360, 3) := by decide +kernel
theorem dX4_straight_10 : decode cX4_straight 10 = .ok (.if_icmp .gt 13, 3) := by decide +kernel
theorem dX4_straight_13 : decode cX4_straight 13 = .ok (.iconst 3, 1) := by decide +kernel
theorem dX4_straight_14 : decode cX4_straight 14 = .ok (.aload_n 0, 1) := by decide +kernel
theorem dX4_straight_15 : decode cX4_straight 15 = .ok (.getfield 43, 3) := by decide +kernel
theorem dX4_straight_18 : decode cX4_straight 18 = .ok (.imul, 1) := by decide +kernel
theorem dX4_straight_19 : decode cX4_straight 19 = .ok (.iload_n 1, 1) := by decide +kernel
theorem dX4_straight_20 : decode cX4_straight 20 = .ok (.if_icmp .le 6, 3) := by decide +kernel
theorem dX4_straight_23 : decode cX4_straight 23 = .ok (.bipush (-2), 2) := by decide +kernel
theorem dX4_straight_25 : decode cX4_straight 25 = .ok (.ireturn, 1) := by decide +kernel
theorem dX4_straight_26 : decode cX4_straight 26 = .ok (.aload_n 0, 1) := by decide +kernel
theorem dX4_straight_27 : decode cX4_straight 27 = .ok (.getfield 39, 3) := by decide +kernel
theorem dX4_straight_30 : decode cX4_straight 30 = .ok (.istore_n 2, 1) := by decide +kernel
theorem dX4_straight_31 : decode cX4_straight 31 = .ok (.aload_n 0, 1) := by decide +kernel
theorem dX4_straight_32 : decode cX4_straight 32 = .ok (.iload_n 1, 1) := by decide +kernel
theorem dX4_straight_33 : decode cX4_straight 33 = .ok (.putfield 39, 3) := by decide +kernel
theorem dX4_straight_36 : decode cX4_straight 36 = .ok (.aload_n 0, 1) := by decide +kernel
theorem dX4_straight_37 : decode cX4_straight 37 = .ok (.getfield 28, 3) := by decide +kernel
theorem dX4_straight_40 : decode cX4_straight 40 = .ok (.invokevirtual 57, 3) := by decide +kernel
theorem dX4_straight_43 : decode cX4_straight 43 = .ok (.iload_n 2, 1) := by decide +kernel
theorem dX4_straight_44 : decode cX4_straight 44 = .ok (.ireturn, 1) := by decide +kernel
theorem dX4_least_0 : decode cX4_least 0 = .ok (.iload_n 1, 1) := by decide +kernel
theorem dX4_least_1 : decode cX4_least 1 = .ok (.iconst 1, 1) := by decide +kernel
theorem dX4_least_2 : decode cX4_least 2 = .ok (.if_icmp .lt 19, 3) := by decide +kernel
theorem dX4_least_5 : decode cX4_least 5 = .ok (.iload_n 1, 1) := by decide +kernel
theorem dX4_least_6 : decode cX4_least 6 = .ok (.bipush 60, 2) := by decide +kernel
theorem dX4_least_8 : decode cX4_least 8 = .ok (.if_icmp .gt 13, 3) := by decide +kernel
theorem dX4_least_11 : decode cX4_least 11 = .ok (.iconst 3, 1) := by decide +kernel
theorem dX4_least_12 : decode cX4_least 12 = .ok (.iload_n 1, 1) := by decide +kernel
theorem dX4_least_13 : decode cX4_least 13 = .ok (.imul, 1) := by decide +kernel
theorem dX4_least_14 : decode cX4_least 14 = .ok (.aload_n 0, 1) := by decide +kernel
theorem dX4_least_15 : decode cX4_least 15 = .ok (.getfield 39, 3) := by decide +kernel
theorem dX4_least_18 : decode cX4_least 18 = .ok (.if_icmp .le 6, 3) := by decide +kernel
theorem dX4_least_21 : decode cX4_least 21 = .ok (.bipush (-2), 2) := by decide +kernel
theorem dX4_least_23 : decode cX4_least 23 = .ok (.ireturn, 1) := by decide +kernel
theorem dX4_least_24 : decode cX4_least 24 = .ok (.aload_n 0, 1) := by decide +kernel
theorem dX4_least_25 : decode cX4_least 25 = .ok (.getfield 43, 3) := by decide +kernel
theorem dX4_least_28 : decode cX4_least 28 = .ok (.istore_n 2, 1) := by decide +kernel
theorem dX4_least_29 : decode cX4_least 29 = .ok (.aload_n 0, 1) := by decide +kernel
theorem dX4_least_30 : decode cX4_least 30 = .ok (.iload_n 1, 1) := by decide +kernel
theorem dX4_least_31 : decode cX4_least 31 = .ok (.putfield 43, 3) := by decide +kernel
theorem dX4_least_34 : decode cX4_least 34 = .ok (.aload_n 0, 1) := by decide +kernel
theorem dX4_least_35 : decode cX4_least 35 = .ok (.getfield 28, 3) := by decide +kernel
theorem dX4_least_38 : decode cX4_least 38 = .ok (.invokevirtual 57, 3) := by decide +kernel
theorem dX4_least_41 : decode cX4_least 41 = .ok (.iload_n 2, 1) := by decide +kernel
theorem dX4_least_42 : decode cX4_least 42 = .ok (.ireturn, 1) := by decide +kernel
theorem dX4_tell_0 : decode cX4_tell 0 = .ok (.aload_n 0, 1) := by decide +kernel
theorem dX4_tell_1 : decode cX4_tell 1 = .ok (.getfield 12, 3) := by decide +kernel
theorem dX4_tell_4 : decode cX4_tell 4 = .ok (.iload_n 1, 1) := by decide +kernel
theorem dX4_tell_5 : decode cX4_tell 5 = .ok (.invokevirtual 108, 3) := by decide +kernel
theorem dX4_tell_8 : decode cX4_tell 8 = .ok (.ifCond .ne 5, 3) := by decide +kernel
theorem dX4_tell_11 : decode cX4_tell 11 = .ok (.iconst (-1), 1) := by decide +kernel
theorem dX4_tell_12 : decode cX4_tell 12 = .ok (.ireturn, 1) := by decide +kernel
theorem dX4_tell_13 : decode cX4_tell 13 = .ok (.iload_n 2, 1) := by decide +kernel
theorem dX4_tell_14 : decode cX4_tell 14 = .ok (.iconst (-1), 1) := by decide +kernel
theorem dX4_tell_15 : decode cX4_tell 15 = .ok (.if_icmp .lt 10, 3) := by decide +kernel
theorem dX4_tell_18 : decode cX4_tell 18 = .ok (.iload_n 2, 1) := by decide +kernel
theorem dX4_tell_19 : decode cX4_tell 19 = .ok (.sipush 4000, 3) := by decide +kernel
theorem dX4_tell_22 : decode cX4_tell 22 = .ok (.if_icmp .le 6, 3) := by decide +kernel
theorem dX4_tell_25 : decode cX4_tell 25 = .ok (.bipush (-2), 2) := by decide +kernel
theorem dX4_tell_27 : decode cX4_tell 27 = .ok (.ireturn, 1) := by decide +kernel
theorem dX4_tell_28 : decode cX4_tell 28 = .ok (.aload_n 0, 1) := by decide +kernel
theorem dX4_tell_29 : decode cX4_tell 29 = .ok (.iload_n 1, 1) := by decide +kernel
theorem dX4_tell_30 : decode cX4_tell 30 = .ok (.invokevirtual 123, 3) := by decide +kernel
theorem dX4_tell_33 : decode cX4_tell 33 = .ok (.istore_n 3, 1) := by decide +kernel
theorem dX4_tell_34 : decode cX4_tell 34 = .ok (.aload_n 0, 1) := by decide +kernel
theorem dX4_tell_35 : decode cX4_tell 35 = .ok (.getfield 19, 3) := by decide +kernel
theorem dX4_tell_38 : decode cX4_tell 38 = .ok (.invokevirtual 70, 3) := by decide +kernel
theorem dX4_tell_41 : decode cX4_tell 41 = .ok (.aload_n 0, 1) := by decide +kernel
theorem dX4_tell_42 : decode cX4_tell 42 = .ok (.getfield 19, 3) := by decide +kernel
theorem dX4_tell_45 : decode cX4_tell 45 = .ok (.iconst 0, 1) := by decide +kernel
theorem dX4_tell_46 : decode cX4_tell 46 = .ok (.bipush 12, 2) := by decide +kernel
theorem dX4_tell_48 : decode cX4_tell 48 = .ok (.iload_n 1, 1) := by decide +kernel
theorem dX4_tell_49 : decode cX4_tell 49 = .ok (.iadd, 1) := by decide +kernel
theorem dX4_tell_50 : decode cX4_tell 50 = .ok (.aload_n 0, 1) := by decide +kernel
theorem dX4_tell_51 : decode cX4_tell 51 = .ok (.getfield 12, 3) := by decide +kernel
theorem dX4_tell_54 : decode cX4_tell 54 = .ok (.iload_n 1, 1) := by decide +kernel
theorem dX4_tell_55 : decode cX4_tell 55 = .ok (.invokevirtual 144, 3) := by decide +kernel
theorem dX4_tell_58 : decode cX4_tell 58 = .ok (.iload_n 2, 1) := by decide +kernel
theorem dX4_tell_59 : decode cX4_tell 59 = .ok (.invokevirtual 77, 3) := by decide +kernel
theorem dX4_tell_62 : decode cX4_tell 62 = .ok (.aload_n 0, 1) := by decide +kernel
theorem dX4_tell_63 : decode cX4_tell 63 = .ok (.invokevirtual 81, 3) := by decide +kernel
theorem dX4_tell_66 : decode cX4_tell 66 = .ok (.iload_n 3, 1) := by decide +kernel
theorem dX4_tell_67 : decode cX4_tell 67 = .ok (.ireturn, 1) := by decide +kernel
theorem dX4_can_0 : decode cX4_can 0 = .ok (.aload_n 0, 1) := by decide +kernel
theorem dX4_can_1 : decode cX4_can 1 = .ok (.getfield 28, 3) := by decide +kernel
theorem dX4_can_4 : decode cX4_can 4 = .ok (.aload_n 0, 1) := by decide +kernel
theorem dX4_can_5 : decode cX4_can 5 = .ok (.getfield 39, 3) := by decide +kernel
theorem dX4_can_8 : decode cX4_can 8 = .ok (.aload_n 0, 1) := by decide +kernel
theorem dX4_can_9 : decode cX4_can 9 = .ok (.getfield 43, 3) := by decide +kernel
theorem dX4_can_12 : decode cX4_can 12 = .ok (.invokevirtual 126, 3) := by decide +kernel
theorem dX4_can_15 : decode cX4_can 15 = .ok (.ifCond .eq 7, 3) := by decide +kernel
theorem dX4_can_18 : decode cX4_can 18 = .ok (.iconst 1, 1) := by decide +kernel
theorem dX4_can_19 : decode cX4_can 19 = .ok (.goto 4, 3) := by decide +kernel
theorem dX4_can_22 : decode cX4_can 22 = .ok (.iconst 0, 1) := by decide +kernel
theorem dX4_can_23 : decode cX4_can 23 = .ok (.ireturn, 1) := by decide +kernel
theorem dX4_angle_0 : decode cX4_angle 0 = .ok (.aload_n 0, 1) := by decide +kernel
theorem dX4_angle_1 : decode cX4_angle 1 = .ok (.getfield 12, 3) := by decide +kernel
theorem dX4_angle_4 : decode cX4_angle 4 = .ok (.iload_n 1, 1) := by decide +kernel
theorem dX4_angle_5 : decode cX4_angle 5 = .ok (.invokevirtual 84, 3) := by decide +kernel
theorem dX4_angle_8 : decode cX4_angle 8 = .ok (.ifCond .ne 5, 3) := by decide +kernel
theorem dX4_angle_11 : decode cX4_angle 11 = .ok (.iconst (-1), 1) := by decide +kernel
theorem dX4_angle_12 : decode cX4_angle 12 = .ok (.ireturn, 1) := by decide +kernel
theorem dX4_angle_13 : decode cX4_angle 13 = .ok (.aload_n 0, 1) := by decide +kernel
theorem dX4_angle_14 : decode cX4_angle 14 = .ok (.getfield 28, 3) := by decide +kernel
theorem dX4_angle_17 : decode cX4_angle 17 = .ok (.aload_n 0, 1) := by decide +kernel
theorem dX4_angle_18 : decode cX4_angle 18 = .ok (.getfield 39, 3) := by decide +kernel
theorem dX4_angle_21 : decode cX4_angle 21 = .ok (.aload_n 0, 1) := by decide +kernel
theorem dX4_angle_22 : decode cX4_angle 22 = .ok (.getfield 43, 3) := by decide +kernel
theorem dX4_angle_25 : decode cX4_angle 25 = .ok (.invokevirtual 126, 3) := by decide +kernel
theorem dX4_angle_28 : decode cX4_angle 28 = .ok (.ifCond .eq 14, 3) := by decide +kernel
theorem dX4_angle_31 : decode cX4_angle 31 = .ok (.aload_n 0, 1) := by decide +kernel
theorem dX4_angle_32 : decode cX4_angle 32 = .ok (.getfield 28, 3) := by decide +kernel
theorem dX4_angle_35 : decode cX4_angle 35 = .ok (.iload_n 1, 1) := by decide +kernel
theorem dX4_angle_36 : decode cX4_angle 36 = .ok (.invokevirtual 147, 3) := by decide +kernel
theorem dX4_angle_39 : decode cX4_angle 39 = .ok (.goto 5, 3) := by decide +kernel
theorem dX4_angle_42 : decode cX4_angle 42 = .ok (.bipush (-6), 2) := by decide +kernel
theorem dX4_angle_44 : decode cX4_angle 44 = .ok (.ireturn, 1) := by decide +kernel
theorem dX4_best_0 : decode cX4_best 0 = .ok (.iconst 0, 1) := by decide +kernel
theorem dX4_best_1 : decode cX4_best 1 = .ok (.istore_n 1, 1) := by decide +kernel
theorem dX4_best_2 : decode cX4_best 2 = .ok (.bipush 60, 2) := by decide +kernel
theorem dX4_best_4 : decode cX4_best 4 = .ok (.aload_n 0, 1) := by decide +kernel
theorem dX4_best_5 : decode cX4_best 5 = .ok (.getfield 39, 3) := by decide +kernel
theorem dX4_best_8 : decode cX4_best 8 = .ok (.iconst 3, 1) := by decide +kernel
theorem dX4_best_9 : decode cX4_best 9 = .ok (.idiv, 1) := by decide +kernel
theorem dX4_best_10 : decode cX4_best 10 = .ok (.invokestatic 150, 3) := by decide +kernel
theorem dX4_best_13 : decode cX4_best 13 = .ok (.iconst 1, 1) := by decide +kernel
theorem dX4_best_14 : decode cX4_best 14 = .ok (.iadd, 1) := by decide +kernel
theorem dX4_best_15 : decode cX4_best 15 = .ok (.istore_n 2, 1) := by decide +kernel
theorem dX4_best_16 : decode cX4_best 16 = .ok (.iconst 0, 1) := by decide +kernel
theorem dX4_best_17 : decode cX4_best 17 = .ok (.istore_n 3, 1) := by decide +kernel
theorem dX4_best_18 : decode cX4_best 18 = .ok (.iload_n 3, 1) := by decide +kernel
theorem dX4_best_19 : decode cX4_best 19 = .ok (.bipush 60, 2) := by decide +kernel
theorem dX4_best_21 : decode cX4_best 21 = .ok (.if_icmp .ge 48, 3) := by decide +kernel
theorem dX4_best_24 : decode cX4_best 24 = .ok (.iload_n 2, 1) := by decide +kernel
theorem dX4_best_25 : decode cX4_best 25 = .ok (.iload_n 1, 1) := by decide +kernel
theorem dX4_best_26 : decode cX4_best 26 = .ok (.isub, 1) := by decide +kernel
theorem dX4_best_27 : decode cX4_best 27 = .ok (.iconst 1, 1) := by decide +kernel
theorem dX4_best_28 : decode cX4_best 28 = .ok (.if_icmp .le 41, 3) := by decide +kernel
theorem dX4_best_31 : decode cX4_best 31 = .ok (.iload_n 1, 1) := by decide +kernel
theorem dX4_best_32 : decode cX4_best 32 = .ok (.iload_n 2, 1) := by decide +kernel
theorem dX4_best_33 : decode cX4_best 33 = .ok (.iadd, 1) := by decide +kernel
theorem dX4_best_34 : decode cX4_best 34 = .ok (.iconst 2, 1) := by decide +kernel
theorem dX4_best_35 : decode cX4_best 35 = .ok (.idiv, 1) := by decide +kernel
theorem dX4_best_36 : decode cX4_best 36 = .ok (.istore 4, 2) := by decide +kernel
theorem dX4_best_38 : decode cX4_best 38 = .ok (.aload_n 0, 1) := by decide +kernel
theorem dX4_best_39 : decode cX4_best 39 = .ok (.getfield 28, 3) := by decide +kernel
theorem dX4_best_42 : decode cX4_best 42 = .ok (.aload_n 0, 1) := by decide +kernel
theorem dX4_best_43 : decode cX4_best 43 = .ok (.getfield 39, 3) := by decide +kernel
theorem dX4_best_46 : decode cX4_best 46 = .ok (.iload 4, 2) := by decide +kernel
theorem dX4_best_48 : decode cX4_best 48 = .ok (.invokevirtual 155, 3) := by decide +kernel
theorem dX4_best_51 : decode cX4_best 51 = .ok (.ifCond .eq 9, 3) := by decide +kernel
theorem dX4_best_54 : decode cX4_best 54 = .ok (.iload 4, 2) := by decide +kernel
theorem dX4_best_56 : decode cX4_best 56 = .ok (.istore_n 1, 1) := by decide +kernel
theorem dX4_best_57 : decode cX4_best 57 = .ok (.goto 6, 3) := by decide +kernel
theorem dX4_best_60 : decode cX4_best 60 = .ok (.iload 4, 2) := by decide +kernel
theorem dX4_best_62 : decode cX4_best 62 = .ok (.istore_n 2, 1) := by decide +kernel
theorem dX4_best_63 : decode cX4_best 63 = .ok (.iinc 3 1, 3) := by decide +kernel
theorem dX4_best_66 : decode cX4_best 66 = .ok (.goto (-48), 3) := by decide +kernel
theorem dX4_best_69 : decode cX4_best 69 = .ok (.iload_n 1, 1) := by decide +kernel
theorem dX4_best_70 : decode cX4_best 70 = .ok (.ifCond .ne 8, 3) := by decide +kernel
theorem dX4_best_73 : decode cX4_best 73 = .ok (.bipush (-6), 2) := by decide +kernel
theorem dX4_best_75 : decode cX4_best 75 = .ok (.goto 4, 3) := by decide +kernel
theorem dX4_best_78 : decode cX4_best 78 = .ok (.iload_n 1, 1) := by decide +kernel
theorem dX4_best_79 : decode cX4_best 79 = .ok (.ireturn, 1) := by decide +kernel
theorem dX4_bar_0 : decode cX4_bar 0 = .ok (.iload_n 1, 1) := by decide +kernel
theorem dX4_bar_1 : decode cX4_bar 1 = .ok (.ifCond .lt 8, 3) := by decide +kernel
theorem dX4_bar_4 : decode cX4_bar 4 = .ok (.iload_n 1, 1) := by decide +kernel
theorem dX4_bar_5 : decode cX4_bar 5 = .ok (.iconst 2, 1) := by decide +kernel
theorem dX4_bar_6 : decode cX4_bar 6 = .ok (.if_icmp .le 6, 3) := by decide +kernel
theorem dX4_bar_9 : decode cX4_bar 9 = .ok (.bipush (-2), 2) := by decide +kernel
theorem dX4_bar_11 : decode cX4_bar 11 = .ok (.ireturn, 1) := by decide +kernel
theorem dX4_bar_12 : decode cX4_bar 12 = .ok (.aload_n 0, 1) := by decide +kernel
theorem dX4_bar_13 : decode cX4_bar 13 = .ok (.getfield 28, 3) := by decide +kernel
theorem dX4_bar_16 : decode cX4_bar 16 = .ok (.aload_n 0, 1) := by decide +kernel
theorem dX4_bar_17 : decode cX4_bar 17 = .ok (.getfield 39, 3) := by decide +kernel
theorem dX4_bar_20 : decode cX4_bar 20 = .ok (.aload_n 0, 1) := by decide +kernel
theorem dX4_bar_21 : decode cX4_bar 21 = .ok (.getfield 43, 3) := by decide +kernel
theorem dX4_bar_24 : decode cX4_bar 24 = .ok (.invokevirtual 126, 3) := by decide +kernel
theorem dX4_bar_27 : decode cX4_bar 27 = .ok (.ifCond .eq 7, 3) := by decide +kernel
theorem dX4_bar_30 : decode cX4_bar 30 = .ok (.iconst 0, 1) := by decide +kernel
theorem dX4_bar_31 : decode cX4_bar 31 = .ok (.goto 19, 3) := by decide +kernel
theorem dX4_bar_34 : decode cX4_bar 34 = .ok (.aload_n 0, 1) := by decide +kernel
theorem dX4_bar_35 : decode cX4_bar 35 = .ok (.getfield 35, 3) := by decide +kernel
theorem dX4_bar_38 : decode cX4_bar 38 = .ok (.iload_n 1, 1) := by decide +kernel
theorem dX4_bar_39 : decode cX4_bar 39 = .ok (.aload_n 0, 1) := by decide +kernel
theorem dX4_bar_40 : decode cX4_bar 40 = .ok (.getfield 39, 3) := by decide +kernel
theorem dX4_bar_43 : decode cX4_bar 43 = .ok (.aload_n 0, 1) := by decide +kernel
theorem dX4_bar_44 : decode cX4_bar 44 = .ok (.getfield 43, 3) := by decide +kernel
theorem dX4_bar_47 : decode cX4_bar 47 = .ok (.invokevirtual 158, 3) := by decide +kernel
theorem dX4_bar_50 : decode cX4_bar 50 = .ok (.ireturn, 1) := by decide +kernel
theorem dX4_opposite_0 : decode cX4_opposite 0 = .ok (.aload_n 0, 1) := by decide +kernel
theorem dX4_opposite_1 : decode cX4_opposite 1 = .ok (.getfield 12, 3) := by decide +kernel
theorem dX4_opposite_4 : decode cX4_opposite 4 = .ok (.iload_n 1, 1) := by decide +kernel
theorem dX4_opposite_5 : decode cX4_opposite 5 = .ok (.iload_n 2, 1) := by decide +kernel
theorem dX4_opposite_6 : decode cX4_opposite 6 = .ok (.invokevirtual 99, 3) := by decide +kernel
theorem dX4_opposite_9 : decode cX4_opposite 9 = .ok (.ifCond .ne 5, 3) := by decide +kernel
theorem dX4_opposite_12 : decode cX4_opposite 12 = .ok (.iconst (-1), 1) := by decide +kernel
theorem dX4_opposite_13 : decode cX4_opposite 13 = .ok (.ireturn, 1) := by decide +kernel
theorem dX4_opposite_14 : decode cX4_opposite 14 = .ok (.aload_n 0, 1) := by decide +kernel
theorem dX4_opposite_15 : decode cX4_opposite 15 = .ok (.getfield 28, 3) := by decide +kernel
theorem dX4_opposite_18 : decode cX4_opposite 18 = .ok (.aload_n 0, 1) := by decide +kernel
theorem dX4_opposite_19 : decode cX4_opposite 19 = .ok (.getfield 39, 3) := by decide +kernel
theorem dX4_opposite_22 : decode cX4_opposite 22 = .ok (.aload_n 0, 1) := by decide +kernel
theorem dX4_opposite_23 : decode cX4_opposite 23 = .ok (.getfield 43, 3) := by decide +kernel
theorem dX4_opposite_26 : decode cX4_opposite 26 = .ok (.invokevirtual 126, 3) := by decide +kernel
theorem dX4_opposite_29 : decode cX4_opposite 29 = .ok (.ifCond .eq 12, 3) := by decide +kernel
theorem dX4_opposite_32 : decode cX4_opposite 32 = .ok (.aload_n 0, 1) := by decide +kernel
theorem dX4_opposite_33 : decode cX4_opposite 33 = .ok (.iload_n 1, 1) := by decide +kernel
theorem dX4_opposite_34 : decode cX4_opposite 34 = .ok (.iload_n 2, 1) := by decide +kernel
theorem dX4_opposite_35 : decode cX4_opposite 35 = .ok (.invokevirtual 161, 3) := by decide +kernel
theorem dX4_opposite_38 : decode cX4_opposite 38 = .ok (.goto 5, 3) := by decide +kernel
theorem dX4_opposite_41 : decode cX4_opposite 41 = .ok (.bipush (-6), 2) := by decide +kernel
theorem dX4_opposite_43 : decode cX4_opposite 43 = .ok (.ireturn, 1) := by decide +kernel
theorem dX4_fit_0 : decode cX4_fit 0 = .ok (.aload_n 0, 1) := by decide +kernel
theorem dX4_fit_1 : decode cX4_fit 1 = .ok (.getfield 28, 3) := by decide +kernel
theorem dX4_fit_4 : decode cX4_fit 4 = .ok (.aload_n 0, 1) := by decide +kernel
theorem dX4_fit_5 : decode cX4_fit 5 = .ok (.getfield 39, 3) := by decide +kernel
theorem dX4_fit_8 : decode cX4_fit 8 = .ok (.aload_n 0, 1) := by decide +kernel
theorem dX4_fit_9 : decode cX4_fit 9 = .ok (.getfield 43, 3) := by decide +kernel
theorem dX4_fit_12 : decode cX4_fit 12 = .ok (.invokevirtual 126, 3) := by decide +kernel
theorem dX4_fit_15 : decode cX4_fit 15 = .ok (.ifCond .ne 6, 3) := by decide +kernel
theorem dX4_fit_18 : decode cX4_fit 18 = .ok (.bipush (-6), 2) := by decide +kernel
theorem dX4_fit_20 : decode cX4_fit 20 = .ok (.ireturn, 1) := by decide +kernel
theorem dX4_fit_21 : decode cX4_fit 21 = .ok (.iconst 0, 1) := by decide +kernel
theorem dX4_fit_22 : decode cX4_fit 22 = .ok (.istore_n 1, 1) := by decide +kernel
theorem dX4_fit_23 : decode cX4_fit 23 = .ok (.iconst 0, 1) := by decide +kernel
theorem dX4_fit_24 : decode cX4_fit 24 = .ok (.istore_n 2, 1) := by decide +kernel
theorem dX4_fit_25 : decode cX4_fit 25 = .ok (.iload_n 2, 1) := by decide +kernel
theorem dX4_fit_26 : decode cX4_fit 26 = .ok (.aload_n 0, 1) := by decide +kernel
theorem dX4_fit_27 : decode cX4_fit 27 = .ok (.getfield 12, 3) := by decide +kernel
theorem dX4_fit_30 : decode cX4_fit 30 = .ok (.invokevirtual 46, 3) := by decide +kernel
theorem dX4_fit_33 : decode cX4_fit 33 = .ok (.if_icmp .ge 59, 3) := by decide +kernel
theorem dX4_fit_36 : decode cX4_fit 36 = .ok (.iload_n 2, 1) := by decide +kernel
theorem dX4_fit_37 : decode cX4_fit 37 = .ok (.iconst 1, 1) := by decide +kernel
theorem dX4_fit_38 : decode cX4_fit 38 = .ok (.iadd, 1) := by decide +kernel
theorem dX4_fit_39 : decode cX4_fit 39 = .ok (.istore_n 3, 1) := by decide +kernel
theorem dX4_fit_40 : decode cX4_fit 40 = .ok (.iload_n 3, 1) := by decide +kernel
theorem dX4_fit_41 : decode cX4_fit 41 = .ok (.aload_n 0, 1) := by decide +kernel
theorem dX4_fit_42 : decode cX4_fit 42 = .ok (.getfield 12, 3) := by decide +kernel
theorem dX4_fit_45 : decode cX4_fit 45 = .ok (.invokevirtual 46, 3) := by decide +kernel
theorem dX4_fit_48 : decode cX4_fit 48 = .ok (.if_icmp .ge 38, 3) := by decide +kernel
theorem dX4_fit_51 : decode cX4_fit 51 = .ok (.aload_n 0, 1) := by decide +kernel
theorem dX4_fit_52 : decode cX4_fit 52 = .ok (.getfield 12, 3) := by decide +kernel
theorem dX4_fit_55 : decode cX4_fit 55 = .ok (.iload_n 2, 1) := by decide +kernel
theorem dX4_fit_56 : decode cX4_fit 56 = .ok (.iload_n 3, 1) := by decide +kernel
theorem dX4_fit_57 : decode cX4_fit 57 = .ok (.invokevirtual 92, 3) := by decide +kernel
theorem dX4_fit_60 : decode cX4_fit 60 = .ok (.iconst 2, 1) := by decide +kernel
theorem dX4_fit_61 : decode cX4_fit 61 = .ok (.if_icmp .ne 19, 3) := by decide +kernel
theorem dX4_fit_64 : decode cX4_fit 64 = .ok (.aload_n 0, 1) := by decide +kernel
theorem dX4_fit_65 : decode cX4_fit 65 = .ok (.iload_n 2, 1) := by decide +kernel
theorem dX4_fit_66 : decode cX4_fit 66 = .ok (.iload_n 3, 1) := by decide +kernel
theorem dX4_fit_67 : decode cX4_fit 67 = .ok (.invokevirtual 161, 3) := by decide +kernel
theorem dX4_fit_70 : decode cX4_fit 70 = .ok (.aload_n 0, 1) := by decide +kernel
theorem dX4_fit_71 : decode cX4_fit 71 = .ok (.getfield 39, 3) := by decide +kernel
theorem dX4_fit_74 : decode cX4_fit 74 = .ok (.if_icmp .gt 6, 3) := by decide +kernel
theorem dX4_fit_77 : decode cX4_fit 77 = .ok (.iinc 1 1, 3) := by decide +kernel
theorem dX4_fit_80 : decode cX4_fit 80 = .ok (.iinc 3 1, 3) := by decide +kernel
theorem dX4_fit_83 : decode cX4_fit 83 = .ok (.goto (-43), 3) := by decide +kernel
theorem dX4_fit_86 : decode cX4_fit 86 = .ok (.iinc 2 1, 3) := by decide +kernel
theorem dX4_fit_89 : decode cX4_fit 89 = .ok (.goto (-64), 3) := by decide +kernel
theorem dX4_fit_92 : decode cX4_fit 92 = .ok (.iload_n 1, 1) := by decide +kernel
theorem dX4_fit_93 : decode cX4_fit 93 = .ok (.ireturn, 1) := by decide +kernel
theorem dX4_undo_0 : decode cX4_undo 0 = .ok (.aload_n 0, 1) := by decide +kernel
theorem dX4_undo_1 : decode cX4_undo 1 = .ok (.getfield 19, 3) := by decide +kernel
theorem dX4_undo_4 : decode cX4_undo 4 = .ok (.invokevirtual 164, 3) := by decide +kernel
theorem dX4_undo_7 : decode cX4_undo 7 = .ok (.ifCond .ne 6, 3) := by decide +kernel
theorem dX4_undo_10 : decode cX4_undo 10 = .ok (.bipush (-3), 2) := by decide +kernel
theorem dX4_undo_12 : decode cX4_undo 12 = .ok (.ireturn, 1) := by decide +kernel
theorem dX4_undo_13 : decode cX4_undo 13 = .ok (.aload_n 0, 1) := by decide +kernel
theorem dX4_undo_14 : decode cX4_undo 14 = .ok (.getfield 19, 3) := by decide +kernel
theorem dX4_undo_17 : decode cX4_undo 17 = .ok (.aload_n 0, 1) := by decide +kernel
theorem dX4_undo_18 : decode cX4_undo 18 = .ok (.getfield 12, 3) := by decide +kernel
theorem dX4_undo_21 : decode cX4_undo 21 = .ok (.invokevirtual 167, 3) := by decide +kernel
theorem dX4_undo_24 : decode cX4_undo 24 = .ok (.aload_n 0, 1) := by decide +kernel
theorem dX4_undo_25 : decode cX4_undo 25 = .ok (.getfield 28, 3) := by decide +kernel
theorem dX4_undo_28 : decode cX4_undo 28 = .ok (.invokevirtual 57, 3) := by decide +kernel
theorem dX4_undo_31 : decode cX4_undo 31 = .ok (.aload_n 0, 1) := by decide +kernel
theorem dX4_undo_32 : decode cX4_undo 32 = .ok (.getfield 19, 3) := by decide +kernel
theorem dX4_undo_35 : decode cX4_undo 35 = .ok (.invokevirtual 164, 3) := by decide +kernel
theorem dX4_undo_38 : decode cX4_undo 38 = .ok (.ireturn, 1) := by decide +kernel
theorem dX4_redo_0 : decode cX4_redo 0 = .ok (.aload_n 0, 1) := by decide +kernel
theorem dX4_redo_1 : decode cX4_redo 1 = .ok (.getfield 19, 3) := by decide +kernel
theorem dX4_redo_4 : decode cX4_redo 4 = .ok (.invokevirtual 170, 3) := by decide +kernel
theorem dX4_redo_7 : decode cX4_redo 7 = .ok (.ifCond .ne 6, 3) := by decide +kernel
theorem dX4_redo_10 : decode cX4_redo 10 = .ok (.bipush (-3), 2) := by decide +kernel
theorem dX4_redo_12 : decode cX4_redo 12 = .ok (.ireturn, 1) := by decide +kernel
theorem dX4_redo_13 : decode cX4_redo 13 = .ok (.aload_n 0, 1) := by decide +kernel
theorem dX4_redo_14 : decode cX4_redo 14 = .ok (.invokevirtual 81, 3) := by decide +kernel
theorem dX4_redo_17 : decode cX4_redo 17 = .ok (.aload_n 0, 1) := by decide +kernel
theorem dX4_redo_18 : decode cX4_redo 18 = .ok (.getfield 19, 3) := by decide +kernel
theorem dX4_redo_21 : decode cX4_redo 21 = .ok (.invokevirtual 170, 3) := by decide +kernel
theorem dX4_redo_24 : decode cX4_redo 24 = .ok (.ireturn, 1) := by decide +kernel
theorem dX4_goForward_0 : decode cX4_goForward 0 = .ok (.aload_n 0, 1) := by decide +kernel
theorem dX4_goForward_1 : decode cX4_goForward 1 = .ok (.getfield 19, 3) := by decide +kernel
theorem dX4_goForward_4 : decode cX4_goForward 4 = .ok (.aload_n 0, 1) := by decide +kernel
theorem dX4_goForward_5 : decode cX4_goForward 5 = .ok (.getfield 12, 3) := by decide +kernel
theorem dX4_goForward_8 : decode cX4_goForward 8 = .ok (.invokevirtual 173, 3) := by decide +kernel
theorem dX4_goForward_11 : decode cX4_goForward 11 = .ok (.aload_n 0, 1) := by decide +kernel
theorem dX4_goForward_12 : decode cX4_goForward 12 = .ok (.getfield 28, 3) := by decide +kernel
theorem dX4_goForward_15 : decode cX4_goForward 15 = .ok (.invokevirtual 57, 3) := by decide +kernel
theorem dX4_goForward_18 : decode cX4_goForward 18 = .ok (.return_, 1) := by decide +kernel
theorem dX4_sumOrNone_0 : decode cX4_sumOrNone 0 = .ok (.aload_n 0, 1) := by decide +kernel
theorem dX4_sumOrNone_1 : decode cX4_sumOrNone 1 = .ok (.getfield 12, 3) := by decide +kernel
theorem dX4_sumOrNone_4 : decode cX4_sumOrNone 4 = .ok (.iload_n 1, 1) := by decide +kernel
theorem dX4_sumOrNone_5 : decode cX4_sumOrNone 5 = .ok (.invokevirtual 144, 3) := by decide +kernel
theorem dX4_sumOrNone_8 : decode cX4_sumOrNone 8 = .ok (.istore_n 2, 1) := by decide +kernel
theorem dX4_sumOrNone_9 : decode cX4_sumOrNone 9 = .ok (.iload_n 2, 1) := by decide +kernel
theorem dX4_sumOrNone_10 : decode cX4_sumOrNone 10 = .ok (.iconst (-1), 1) := by decide +kernel
theorem dX4_sumOrNone_11 : decode cX4_sumOrNone 11 = .ok (.if_icmp .ne 8, 3) := by decide +kernel
theorem dX4_sumOrNone_14 : decode cX4_sumOrNone 14 = .ok (.bipush (-6), 2) := by decide +kernel
theorem dX4_sumOrNone_16 : decode cX4_sumOrNone 16 = .ok (.goto 4, 3) := by decide +kernel
theorem dX4_sumOrNone_19 : decode cX4_sumOrNone 19 = .ok (.iload_n 2, 1) := by decide +kernel
theorem dX4_sumOrNone_20 : decode cX4_sumOrNone 20 = .ok (.ireturn, 1) := by decide +kernel
theorem dX4_givenOpposite_0 : decode cX4_givenOpposite 0 = .ok (.iconst 0, 1) := by decide +kernel
theorem dX4_givenOpposite_1 : decode cX4_givenOpposite 1 = .ok (.istore_n 3, 1) := by decide +kernel
theorem dX4_givenOpposite_2 : decode cX4_givenOpposite 2 = .ok (.aload_n 0, 1) := by decide +kernel
theorem dX4_givenOpposite_3 : decode cX4_givenOpposite 3 = .ok (.getfield 12, 3) := by decide +kernel
theorem dX4_givenOpposite_6 : decode cX4_givenOpposite 6 = .ok (.iload_n 1, 1) := by decide +kernel
theorem dX4_givenOpposite_7 : decode cX4_givenOpposite 7 = .ok (.iload_n 2, 1) := by decide +kernel
theorem dX4_givenOpposite_8 : decode cX4_givenOpposite 8 = .ok (.invokevirtual 67, 3) := by decide +kernel
theorem dX4_givenOpposite_11 : decode cX4_givenOpposite 11 = .ok (.ifCond .eq 31, 3) := by decide +kernel
theorem dX4_givenOpposite_14 : decode cX4_givenOpposite 14 = .ok (.iload_n 3, 1) := by decide +kernel
theorem dX4_givenOpposite_15 : decode cX4_givenOpposite 15 = .ok (.aload_n 0, 1) := by decide +kernel
theorem dX4_givenOpposite_16 : decode cX4_givenOpposite 16 = .ok (.getfield 28, 3) := by decide +kernel
theorem dX4_givenOpposite_19 : decode cX4_givenOpposite 19 = .ok (.aload_n 0, 1) := by decide +kernel
theorem dX4_givenOpposite_20 : decode cX4_givenOpposite 20 = .ok (.getfield 12, 3) := by decide +kernel
theorem dX4_givenOpposite_23 : decode cX4_givenOpposite 23 = .ok (.aload_n 0, 1) := by decide +kernel
theorem dX4_givenOpposite_24 : decode cX4_givenOpposite 24 = .ok (.getfield 12, 3) := by decide +kernel
theorem dX4_givenOpposite_27 : decode cX4_givenOpposite 27 = .ok (.iload_n 1, 1) := by decide +kernel
theorem dX4_givenOpposite_28 : decode cX4_givenOpposite 28 = .ok (.iload_n 2, 1) := by decide +kernel
theorem dX4_givenOpposite_29 : decode cX4_givenOpposite 29 = .ok (.invokevirtual 96, 3) := by decide +kernel
theorem dX4_givenOpposite_32 : decode cX4_givenOpposite 32 = .ok (.iload_n 1, 1) := by decide +kernel
theorem dX4_givenOpposite_33 : decode cX4_givenOpposite 33 = .ok (.iload_n 2, 1) := by decide +kernel
theorem dX4_givenOpposite_34 : decode cX4_givenOpposite 34 = .ok (.invokevirtual 102, 3) := by decide +kernel
theorem dX4_givenOpposite_37 : decode cX4_givenOpposite 37 = .ok (.invokevirtual 147, 3) := by decide +kernel
theorem dX4_givenOpposite_40 : decode cX4_givenOpposite 40 = .ok (.iadd, 1) := by decide +kernel
theorem dX4_givenOpposite_41 : decode cX4_givenOpposite 41 = .ok (.istore_n 3, 1) := by decide +kernel
theorem dX4_givenOpposite_42 : decode cX4_givenOpposite 42 = .ok (.aload_n 0, 1) := by decide +kernel
theorem dX4_givenOpposite_43 : decode cX4_givenOpposite 43 = .ok (.getfield 12, 3) := by decide +kernel
theorem dX4_givenOpposite_46 : decode cX4_givenOpposite 46 = .ok (.iload_n 2, 1) := by decide +kernel
theorem dX4_givenOpposite_47 : decode cX4_givenOpposite 47 = .ok (.iload_n 1, 1) := by decide +kernel
theorem dX4_givenOpposite_48 : decode cX4_givenOpposite 48 = .ok (.invokevirtual 67, 3) := by decide +kernel
theorem dX4_givenOpposite_51 : decode cX4_givenOpposite 51 = .ok (.ifCond .eq 31, 3) := by decide +kernel
theorem dX4_givenOpposite_54 : decode cX4_givenOpposite 54 = .ok (.iload_n 3, 1) := by decide +kernel
theorem dX4_givenOpposite_55 : decode cX4_givenOpposite 55 = .ok (.aload_n 0, 1) := by decide +kernel
theorem dX4_givenOpposite_56 : decode cX4_givenOpposite 56 = .ok (.getfield 28, 3) := by decide +kernel
theorem dX4_givenOpposite_59 : decode cX4_givenOpposite 59 = .ok (.aload_n 0, 1) := by decide +kernel
theorem dX4_givenOpposite_60 : decode cX4_givenOpposite 60 = .ok (.getfield 12, 3) := by decide +kernel
theorem dX4_givenOpposite_63 : decode cX4_givenOpposite 63 = .ok (.aload_n 0, 1) := by decide +kernel
theorem dX4_givenOpposite_64 : decode cX4_givenOpposite 64 = .ok (.getfield 12, 3) := by decide +kernel
theorem dX4_givenOpposite_67 : decode cX4_givenOpposite 67 = .ok (.iload_n 2, 1) := by decide +kernel
theorem dX4_givenOpposite_68 : decode cX4_givenOpposite 68 = .ok (.iload_n 1, 1) := by decide +kernel
theorem dX4_givenOpposite_69 : decode cX4_givenOpposite 69 = .ok (.invokevirtual 96, 3) := by decide +kernel
theorem dX4_givenOpposite_72 : decode cX4_givenOpposite 72 = .ok (.iload_n 1, 1) := by decide +kernel
theorem dX4_givenOpposite_73 : decode cX4_givenOpposite 73 = .ok (.iload_n 2, 1) := by decide +kernel
theorem dX4_givenOpposite_74 : decode cX4_givenOpposite 74 = .ok (.invokevirtual 102, 3) := by decide +kernel
theorem dX4_givenOpposite_77 : decode cX4_givenOpposite 77 = .ok (.invokevirtual 147, 3) := by decide +kernel
theorem dX4_givenOpposite_80 : decode cX4_givenOpposite 80 = .ok (.iadd, 1) := by decide +kernel
theorem dX4_givenOpposite_81 : decode cX4_givenOpposite 81 = .ok (.istore_n 3, 1) := by decide +kernel
theorem dX4_givenOpposite_82 : decode cX4_givenOpposite 82 = .ok (.iload_n 3, 1) := by decide +kernel
theorem dX4_givenOpposite_83 : decode cX4_givenOpposite 83 = .ok (.ireturn, 1) := by decide +kernel
theorem dX5_init_0 : decode cX5_init 0 = .ok (.aload_n 0, 1) := by decide +kernel
theorem dX5_init_1 : decode cX5_init 1 = .ok (.invokespecial 1, 3) := by decide +kernel
theorem dX5_init_4 : decode cX5_init 4 = .ok (.aload_n 0, 1) := by decide +kernel
theorem dX5_init_5 : decode cX5_init 5 = .ok (.iconst 4, 1) := by decide +kernel
theorem dX5_init_6 : decode cX5_init 6 = .ok (.putfield 7, 3) := by decide +kernel
theorem dX5_init_9 : decode cX5_init 9 = .ok (.aload_n 0, 1) := by decide +kernel
theorem dX5_init_10 : decode cX5_init 10 = .ok (.bipush 36, 2) := by decide +kernel
theorem dX5_init_12 : decode cX5_init 12 = .ok (.newarray .int, 2) := by decide +kernel
theorem dX5_init_14 : decode cX5_init 14 = .ok (.putfield 13, 3) := by decide +kernel
theorem dX5_init_17 : decode cX5_init 17 = .ok (.aload_n 0, 1) := by decide +kernel
theorem dX5_init_18 : decode cX5_init 18 = .ok (.sipush 180, 3) := by decide +kernel
theorem dX5_init_21 : decode cX5_init 21 = .ok (.putfield 17, 3) := by decide +kernel
theorem dX5_init_24 : decode cX5_init 24 = .ok (.aload_n 0, 1) := by decide +kernel
theorem dX5_init_25 : decode cX5_init 25 = .ok (.iconst 1, 1) := by decide +kernel
theorem dX5_init_26 : decode cX5_init 26 = .ok (.putfield 20, 3) := by decide +kernel
theorem dX5_init_29 : decode cX5_init 29 = .ok (.aload_n 0, 1) := by decide +kernel
theorem dX5_init_30 : decode cX5_init 30 = .ok (.bipush 9, 2) := by decide +kernel
theorem dX5_init_32 : decode cX5_init 32 = .ok (.newarray .int, 2) := by decide +kernel
theorem dX5_init_34 : decode cX5_init 34 = .ok (.putfield 23, 3) := by decide +kernel
theorem dX5_init_37 : decode cX5_init 37 = .ok (.aload_n 0, 1) := by decide +kernel
theorem dX5_init_38 : decode cX5_init 38 = .ok (.bipush 36, 2) := by decide +kernel
theorem dX5_init_40 : decode cX5_init 40 = .ok (.newarray .int, 2) := by decide +kernel
theorem dX5_init_42 : decode cX5_init 42 = .ok (.putfield 26, 3) := by decide +kernel
theorem dX5_init_45 : decode cX5_init 45 = .ok (.aload_n 0, 1) := by decide +kernel
theorem dX5_init_46 : decode cX5_init 46 = .ok (.sipush 900, 3) := by decide +kernel
theorem dX5_init_49 : decode cX5_init 49 = .ok (.newarray .int, 2) := by decide +kernel
theorem dX5_init_51 : decode cX5_init 51 = .ok (.putfield 29, 3) := by decide +kernel
theorem dX5_init_54 : decode cX5_init 54 = .ok (.aload_n 0, 1) := by decide +kernel
theorem dX5_init_55 : decode cX5_init 55 = .ok (.bipush 12, 2) := by decide +kernel
theorem dX5_init_57 : decode cX5_init 57 = .ok (.newarray .int, 2) := by decide +kernel
theorem dX5_init_59 : decode cX5_init 59 = .ok (.putfield 32, 3) := by decide +kernel
theorem dX5_init_62 : decode cX5_init 62 = .ok (.aload_n 0, 1) := by decide +kernel
theorem dX5_init_63 : decode cX5_init 63 = .ok (.bipush 12, 2) := by decide +kernel
theorem dX5_init_65 : decode cX5_init 65 = .ok (.newarray .int, 2) := by decide +kernel
theorem dX5_init_67 : decode cX5_init 67 = .ok (.putfield 35, 3) := by decide +kernel
theorem dX5_init_70 : decode cX5_init 70 = .ok (.aload_n 0, 1) := by decide +kernel
theorem dX5_init_71 : decode cX5_init 71 = .ok (.bipush 9, 2) := by decide +kernel
theorem dX5_init_73 : decode cX5_init 73 = .ok (.newarray .int, 2) := by decide +kernel
theorem dX5_init_75 : decode cX5_init 75 = .ok (.putfield 38, 3) := by decide +kernel
theorem dX5_init_78 : decode cX5_init 78 = .ok (.aload_n 0, 1) := by decide +kernel
theorem dX5_init_79 : decode cX5_init 79 = .ok (.bipush 21, 2) := by decide +kernel
theorem dX5_init_81 : decode cX5_init 81 = .ok (.newarray .int, 2) := by decide +kernel
theorem dX5_init_83 : decode cX5_init 83 = .ok (.putfield 41, 3) := by decide +kernel
theorem dX5_init_86 : decode cX5_init 86 = .ok (.aload_n 0, 1) := by decide +kernel
theorem dX5_init_87 : decode cX5_init 87 = .ok (.bipush 21, 2) := by decide +kernel
theorem dX5_init_89 : decode cX5_init 89 = .ok (.newarray .int, 2) := by decide +kernel
theorem dX5_init_91 : decode cX5_init 91 = .ok (.putfield 44, 3) := by decide +kernel
theorem dX5_init_94 : decode cX5_init 94 = .ok (.aload_n 0, 1) := by decide +kernel
theorem dX5_init_95 : decode cX5_init 95 = .ok (.bipush 21, 2) := by decide +kernel
theorem dX5_init_97 : decode cX5_init 97 = .ok (.newarray .int, 2) := by decide +kernel
theorem dX5_init_99 : decode cX5_init 99 = .ok (.putfield 47, 3) := by decide +kernel
theorem dX5_init_102 : decode cX5_init 102 = .ok (.aload_n 0, 1) := by decide +kernel
theorem dX5_init_103 : decode cX5_init 103 = .ok (.invokevirtual 50, 3) := by decide +kernel
theorem dX5_init_106 : decode cX5_init 106 = .ok (.return_, 1) := by decide +kernel
theorem dX5_in_0 : decode cX5_in 0 = .ok (.iload_n 0, 1) := by decide +kernel
theorem dX5_in_1 : decode cX5_in 1 = .ok (.iload_n 1, 1) := by decide +kernel
theorem dX5_in_2 : decode cX5_in 2 = .ok (.if_icmp .lt 12, 3) := by decide +kernel
theorem dX5_in_5 : decode cX5_in 5 = .ok (.iload_n 0, 1) := by decide +kernel
theorem dX5_in_6 : decode cX5_in 6 = .ok (.iload_n 2, 1) := by decide +kernel
theorem dX5_in_7 : decode cX5_in 7 = .ok (.if_icmp .gt 7, 3) := by decide +kernel
theorem dX5_in_10 : decode cX5_in 10 = .ok (.iconst 1, 1) := by decide +kernel
theorem dX5_in_11 : decode cX5_in 11 = .ok (.goto 4, 3) := by decide +kernel
theorem dX5_in_14 : decode cX5_in 14 = .ok (.iconst 0, 1) := by decide +kernel
theorem dX5_in_15 : decode cX5_in 15 = .ok (.ireturn, 1) := by decide +kernel
theorem dX5_begin_0 : decode cX5_begin 0 = .ok (.aload_n 0, 1) := by decide +kernel
theorem dX5_begin_1 : decode cX5_begin 1 = .ok (.iconst 0, 1) := by decide +kernel
theorem dX5_begin_2 : decode cX5_begin 2 = .ok (.putfield 53, 3) := by decide +kernel
theorem dX5_begin_5 : decode cX5_begin 5 = .ok (.iconst 0, 1) := by decide +kernel
theorem dX5_begin_6 : decode cX5_begin 6 = .ok (.istore_n 1, 1) := by decide +kernel
theorem dX5_begin_7 : decode cX5_begin 7 = .ok (.iload_n 1, 1) := by decide +kernel
theorem dX5_begin_8 : decode cX5_begin 8 = .ok (.bipush 9, 2) := by decide +kernel
theorem dX5_begin_10 : decode cX5_begin 10 = .ok (.if_icmp .ge 17, 3) := by decide +kernel
theorem dX5_begin_13 : decode cX5_begin 13 = .ok (.aload_n 0, 1) := by decide +kernel
theorem dX5_begin_14 : decode cX5_begin 14 = .ok (.getfield 23, 3) := by decide +kernel
theorem dX5_begin_17 : decode cX5_begin 17 = .ok (.iload_n 1, 1) := by decide +kernel
theorem dX5_begin_18 : decode cX5_begin 18 = .ok (.bipush (-6), 2) := by decide +kernel
theorem dX5_begin_20 : decode cX5_begin 20 = .ok (.iastore, 1) := by decide +kernel
theorem dX5_begin_21 : decode cX5_begin 21 = .ok (.iinc 1 1, 3) := by decide +kernel
theorem dX5_begin_24 : decode cX5_begin 24 = .ok (.goto (-17), 3) := by decide +kernel
theorem dX5_begin_27 : decode cX5_begin 27 = .ok (.aload_n 0, 1) := by decide +kernel
theorem dX5_begin_28 : decode cX5_begin 28 = .ok (.iconst 0, 1) := by decide +kernel
theorem dX5_begin_29 : decode cX5_begin 29 = .ok (.putfield 56, 3) := by decide +kernel
theorem dX5_begin_32 : decode cX5_begin 32 = .ok (.aload_n 0, 1) := by decide +kernel
theorem dX5_begin_33 : decode cX5_begin 33 = .ok (.iconst 0, 1) := by decide +kernel
theorem dX5_begin_34 : decode cX5_begin 34 = .ok (.putfield 59, 3) := by decide +kernel
theorem dX5_begin_37 : decode cX5_begin 37 = .ok (.aload_n 0, 1) := by decide +kernel
theorem dX5_begin_38 : decode cX5_begin 38 = .ok (.iconst 0, 1) := by decide +kernel
theorem dX5_begin_39 : decode cX5_begin 39 = .ok (.putfield 62, 3) := by decide +kernel
theorem dX5_begin_42 : decode cX5_begin 42 = .ok (.return_, 1) := by decide +kernel
theorem dX5_isPost_0 : decode cX5_isPost 0 = .ok (.iload_n 1, 1) := by decide +kernel
theorem dX5_isPost_1 : decode cX5_isPost 1 = .ok (.iconst 0, 1) := by decide +kernel
theorem dX5_isPost_2 : decode cX5_isPost 2 = .ok (.aload_n 0, 1) := by decide +kernel
theorem dX5_isPost_3 : decode cX5_isPost 3 = .ok (.getfield 7, 3) := by decide +kernel
theorem dX5_isPost_6 : decode cX5_isPost 6 = .ok (.iconst 1, 1) := by decide +kernel
theorem dX5_isPost_7 : decode cX5_isPost 7 = .ok (.isub, 1) := by decide +kernel
theorem dX5_isPost_8 : decode cX5_isPost 8 = .ok (.invokestatic 66, 3) := by decide +kernel
theorem dX5_isPost_11 : decode cX5_isPost 11 = .ok (.ireturn, 1) := by decide +kernel
theorem dX5_arePair_0 : decode cX5_arePair 0 = .ok (.aload_n 0, 1) := by decide +kernel
theorem dX5_arePair_1 : decode cX5_arePair 1 = .ok (.iload_n 1, 1) := by decide +kernel
theorem dX5_arePair_2 : decode cX5_arePair 2 = .ok (.invokevirtual 70, 3) := by decide +kernel
theorem dX5_arePair_5 : decode cX5_arePair 5 = .ok (.ifCond .eq 20, 3) := by decide +kernel
theorem dX5_arePair_8 : decode cX5_arePair 8 = .ok (.aload_n 0, 1) := by decide +kernel
theorem dX5_arePair_9 : decode cX5_arePair 9 = .ok (.iload_n 2, 1) := by decide +kernel
theorem dX5_arePair_10 : decode cX5_arePair 10 = .ok (.invokevirtual 70, 3) := by decide +kernel
theorem dX5_arePair_13 : decode cX5_arePair 13 = .ok (.ifCond .eq 12, 3) := by decide +kernel
theorem dX5_arePair_16 : decode cX5_arePair 16 = .ok (.iload_n 1, 1) := by decide +kernel
theorem dX5_arePair_17 : decode cX5_arePair 17 = .ok (.iload_n 2, 1) := by decide +kernel
theorem dX5_arePair_18 : decode cX5_arePair 18 = .ok (.if_icmp .eq 7, 3) := by decide +kernel
theorem dX5_arePair_21 : decode cX5_arePair 21 = .ok (.iconst 1, 1) := by decide +kernel
theorem dX5_arePair_22 : decode cX5_arePair 22 = .ok (.goto 4, 3) := by decide +kernel
theorem dX5_arePair_25 : decode cX5_arePair 25 = .ok (.iconst 0, 1) := by decide +kernel
theorem dX5_arePair_26 : decode cX5_arePair 26 = .ok (.ireturn, 1) := by decide +kernel
theorem dX5_posts_0 : decode cX5_posts 0 = .ok (.iload_n 1, 1) := by decide +kernel
theorem dX5_posts_1 : decode cX5_posts 1 = .ok (.iconst 3, 1) := by decide +kernel
theorem dX5_posts_2 : decode cX5_posts 2 = .ok (.bipush 9, 2) := by decide +kernel
theorem dX5_posts_4 : decode cX5_posts 4 = .ok (.invokestatic 66, 3) := by decide +kernel
theorem dX5_posts_7 : decode cX5_posts 7 = .ok (.ifCond .ne 6, 3) := by decide +kernel
theorem dX5_posts_10 : decode cX5_posts 10 = .ok (.bipush (-2), 2) := by decide +kernel
theorem dX5_posts_12 : decode cX5_posts 12 = .ok (.ireturn, 1) := by decide +kernel
theorem dX5_posts_13 : decode cX5_posts 13 = .ok (.aload_n 0, 1) := by decide +kernel
theorem dX5_posts_14 : decode cX5_posts 14 = .ok (.getfield 7, 3) := by decide +kernel
theorem dX5_posts_17 : decode cX5_posts 17 = .ok (.istore_n 2, 1) := by decide +kernel
theorem dX5_posts_18 : decode cX5_posts 18 = .ok (.aload_n 0, 1) := by decide +kernel
theorem dX5_posts_19 : decode cX5_posts 19 = .ok (.iload_n 1, 1) := by decide +kernel
theorem dX5_posts_20 : decode cX5_posts 20 = .ok (.putfield 7, 3) := by decide +kernel
theorem dX5_posts_23 : decode cX5_posts 23 = .ok (.aload_n 0, 1) := by decide +kernel
theorem dX5_posts_24 : decode cX5_posts 24 = .ok (.invokevirtual 50, 3) := by decide +kernel
theorem dX5_posts_27 : decode cX5_posts 27 = .ok (.iload_n 2, 1) := by decide +kernel
theorem dX5_posts_28 : decode cX5_posts 28 = .ok (.ireturn, 1) := by decide +kernel
theorem dX5_arrowOf_0 : decode cX5_arrowOf 0 = .ok (.iconst 0, 1) := by decide +kernel
theorem dX5_arrowOf_1 : decode cX5_arrowOf 1 = .ok (.istore_n 3, 1) := by decide +kernel
theorem dX5_arrowOf_2 : decode cX5_arrowOf 2 = .ok (.iload_n 3, 1) := by decide +kernel
theorem dX5_arrowOf_3 : decode cX5_arrowOf 3 = .ok (.iconst 3, 1) := by decide +kernel
theorem dX5_arrowOf_4 : decode cX5_arrowOf 4 = .ok (.aload_n 0, 1) := by decide +kernel
theorem dX5_arrowOf_5 : decode cX5_arrowOf 5 = .ok (.getfield 53, 3) := by decide +kernel
theorem dX5_arrowOf_8 : decode cX5_arrowOf 8 = .ok (.imul, 1) := by decide +kernel
theorem dX5_arrowOf_9 : decode cX5_arrowOf 9 = .ok (.if_icmp .ge 43, 3) := by decide +kernel
theorem dX5_arrowOf_12 : decode cX5_arrowOf 12 = .ok (.aload_n 0, 1) := by decide +kernel
theorem dX5_arrowOf_13 : decode cX5_arrowOf 13 = .ok (.getfield 13, 3) := by decide +kernel
theorem dX5_arrowOf_16 : decode cX5_arrowOf 16 = .ok (.iload_n 3, 1) := by decide +kernel
theorem dX5_arrowOf_17 : decode cX5_arrowOf 17 = .ok (.iaload, 1) := by decide +kernel
theorem dX5_arrowOf_18 : decode cX5_arrowOf 18 = .ok (.iload_n 1, 1) := by decide +kernel
theorem dX5_arrowOf_19 : decode cX5_arrowOf 19 = .ok (.if_icmp .ne 27, 3) := by decide +kernel
theorem dX5_arrowOf_22 : decode cX5_arrowOf 22 = .ok (.aload_n 0, 1) := by decide +kernel
theorem dX5_arrowOf_23 : decode cX5_arrowOf 23 = .ok (.getfield 13, 3) := by decide +kernel
theorem dX5_arrowOf_26 : decode cX5_arrowOf 26 = .ok (.iload_n 3, 1) := by decide +kernel
theorem dX5_arrowOf_27 : decode cX5_arrowOf 27 = .ok (.iconst 3, 1) := by decide +kernel
theorem dX5_arrowOf_28 : decode cX5_arrowOf 28 = .ok (.idiv, 1) := by decide +kernel
theorem dX5_arrowOf_29 : decode cX5_arrowOf 29 = .ok (.iconst 3, 1) := by decide +kernel
theorem dX5_arrowOf_30 : decode cX5_arrowOf 30 = .ok (.imul, 1) := by decide +kernel
theorem dX5_arrowOf_31 : decode cX5_arrowOf 31 = .ok (.iload_n 3, 1) := by decide +kernel
theorem dX5_arrowOf_32 : decode cX5_arrowOf 32 = .ok (.iconst 1, 1) := by decide +kernel
theorem dX5_arrowOf_33 : decode cX5_arrowOf 33 = .ok (.iadd, 1) := by decide +kernel
theorem dX5_arrowOf_34 : decode cX5_arrowOf 34 = .ok (.iconst 3, 1) := by decide +kernel
theorem dX5_arrowOf_35 : decode cX5_arrowOf 35 = .ok (.irem, 1) := by decide +kernel
theorem dX5_arrowOf_36 : decode cX5_arrowOf 36 = .ok (.iadd, 1) := by decide +kernel
theorem dX5_arrowOf_37 : decode cX5_arrowOf 37 = .ok (.iaload, 1) := by decide +kernel
theorem dX5_arrowOf_38 : decode cX5_arrowOf 38 = .ok (.iload_n 2, 1) := by decide +kernel
theorem dX5_arrowOf_39 : decode cX5_arrowOf 39 = .ok (.if_icmp .ne 7, 3) := by decide +kernel
theorem dX5_arrowOf_42 : decode cX5_arrowOf 42 = .ok (.iload_n 3, 1) := by decide +kernel
theorem dX5_arrowOf_43 : decode cX5_arrowOf 43 = .ok (.iconst 3, 1) := by decide +kernel
theorem dX5_arrowOf_44 : decode cX5_arrowOf 44 = .ok (.idiv, 1) := by decide +kernel
theorem dX5_arrowOf_45 : decode cX5_arrowOf 45 = .ok (.ireturn, 1) := by decide +kernel
theorem dX5_arrowOf_46 : decode cX5_arrowOf 46 = .ok (.iinc 3 1, 3) := by decide +kernel
theorem dX5_arrowOf_49 : decode cX5_arrowOf 49 = .ok (.goto (-47), 3) := by decide +kernel
theorem dX5_arrowOf_52 : decode cX5_arrowOf 52 = .ok (.bipush (-6), 2) := by decide +kernel
theorem dX5_arrowOf_54 : decode cX5_arrowOf 54 = .ok (.ireturn, 1) := by decide +kernel
theorem dX5_sideOf_0 : decode cX5_sideOf 0 = .ok (.aload_n 0, 1) := by decide +kernel
theorem dX5_sideOf_1 : decode cX5_sideOf 1 = .ok (.iload_n 1, 1) := by decide +kernel
theorem dX5_sideOf_2 : decode cX5_sideOf 2 = .ok (.iload_n 2, 1) := by decide +kernel
theorem dX5_sideOf_3 : decode cX5_sideOf 3 = .ok (.invokevirtual 74, 3) := by decide +kernel
theorem dX5_sideOf_6 : decode cX5_sideOf 6 = .ok (.ifCond .lt 7, 3) := by decide +kernel
theorem dX5_sideOf_9 : decode cX5_sideOf 9 = .ok (.iconst 1, 1) := by decide +kernel
theorem dX5_sideOf_10 : decode cX5_sideOf 10 = .ok (.goto 4, 3) := by decide +kernel
theorem dX5_sideOf_13 : decode cX5_sideOf 13 = .ok (.iconst 0, 1) := by decide +kernel
theorem dX5_sideOf_14 : decode cX5_sideOf 14 = .ok (.aload_n 0, 1) := by decide +kernel
end
section
theorem dX5_sideOf_15 : decode cX5_sideOf 15 = .ok (.iload_n 2, 1) := by decide +kernel
theorem dX5_sideOf_16 : decode cX5_sideOf 16 = .ok (.iload_n 1, 1) := by decide +kernel
theorem dX5_sideOf_17 : decode cX5_sideOf 17 = .ok (.invokevirtual 74, 3) := by decide +kernel
theorem dX5_sideOf_20 : decode cX5_sideOf 20 = .ok (.ifCond .lt 7, 3) := by decide +kernel
theorem dX5_sideOf_23 : decode cX5_sideOf 23 = .ok (.iconst 1, 1) := by decide +kernel
theorem dX5_sideOf_24 : decode cX5_sideOf 24 = .ok (.goto 4, 3) := by decide +kernel
theorem dX5_sideOf_27 : decode cX5_sideOf 27 = .ok (.iconst 0, 1) := by decide +kernel
theorem dX5_sideOf_28 : decode cX5_sideOf 28 = .ok (.iadd, 1) := by decide +kernel
theorem dX5_sideOf_29 : decode cX5_sideOf 29 = .ok (.ireturn, 1) := by decide +kernel
theorem dX5_put_0 : decode cX5_put 0 = .ok (.aload_n 0, 1) := by decide +kernel
theorem dX5_put_1 : decode cX5_put 1 = .ok (.getfield 13, 3) := by decide +kernel
theorem dX5_put_4 : decode cX5_put 4 = .ok (.iconst 3, 1) := by decide +kernel
theorem dX5_put_5 : decode cX5_put 5 = .ok (.iload_n 1, 1) := by decide +kernel
theorem dX5_put_6 : decode cX5_put 6 = .ok (.imul, 1) := by decide +kernel
theorem dX5_put_7 : decode cX5_put 7 = .ok (.iload_n 2, 1) := by decide +kernel
theorem dX5_put_8 : decode cX5_put 8 = .ok (.iastore, 1) := by decide +kernel
theorem dX5_put_9 : decode cX5_put 9 = .ok (.aload_n 0, 1) := by decide +kernel
theorem dX5_put_10 : decode cX5_put 10 = .ok (.getfield 13, 3) := by decide +kernel
theorem dX5_put_13 : decode cX5_put 13 = .ok (.iconst 3, 1) := by decide +kernel
theorem dX5_put_14 : decode cX5_put 14 = .ok (.iload_n 1, 1) := by decide +kernel
theorem dX5_put_15 : decode cX5_put 15 = .ok (.imul, 1) := by decide +kernel
theorem dX5_put_16 : decode cX5_put 16 = .ok (.iconst 1, 1) := by decide +kernel
theorem dX5_put_17 : decode cX5_put 17 = .ok (.iadd, 1) := by decide +kernel
theorem dX5_put_18 : decode cX5_put 18 = .ok (.iload_n 3, 1) := by decide +kernel
theorem dX5_put_19 : decode cX5_put 19 = .ok (.iastore, 1) := by decide +kernel
theorem dX5_put_20 : decode cX5_put 20 = .ok (.aload_n 0, 1) := by decide +kernel
theorem dX5_put_21 : decode cX5_put 21 = .ok (.getfield 13, 3) := by decide +kernel
theorem dX5_put_24 : decode cX5_put 24 = .ok (.iconst 3, 1) := by decide +kernel
theorem dX5_put_25 : decode cX5_put 25 = .ok (.iload_n 1, 1) := by decide +kernel
theorem dX5_put_26 : decode cX5_put 26 = .ok (.imul, 1) := by decide +kernel
theorem dX5_put_27 : decode cX5_put 27 = .ok (.iconst 2, 1) := by decide +kernel
theorem dX5_put_28 : decode cX5_put 28 = .ok (.iadd, 1) := by decide +kernel
theorem dX5_put_29 : decode cX5_put 29 = .ok (.iload 4, 2) := by decide +kernel
theorem dX5_put_31 : decode cX5_put 31 = .ok (.iastore, 1) := by decide +kernel
theorem dX5_put_32 : decode cX5_put 32 = .ok (.return_, 1) := by decide +kernel
theorem dX5_write_0 : decode cX5_write 0 = .ok (.aload_n 0, 1) := by decide +kernel
theorem dX5_write_1 : decode cX5_write 1 = .ok (.getfield 59, 3) := by decide +kernel
theorem dX5_write_4 : decode cX5_write 4 = .ok (.bipush 60, 2) := by decide +kernel
theorem dX5_write_6 : decode cX5_write 6 = .ok (.if_icmp .ne 47, 3) := by decide +kernel
theorem dX5_write_9 : decode cX5_write 9 = .ok (.iconst 0, 1) := by decide +kernel
theorem dX5_write_10 : decode cX5_write 10 = .ok (.istore 4, 2) := by decide +kernel
theorem dX5_write_12 : decode cX5_write 12 = .ok (.iload 4, 2) := by decide +kernel
theorem dX5_write_14 : decode cX5_write 14 = .ok (.sipush 885, 3) := by decide +kernel
theorem dX5_write_17 : decode cX5_write 17 = .ok (.if_icmp .ge 26, 3) := by decide +kernel
theorem dX5_write_20 : decode cX5_write 20 = .ok (.aload_n 0, 1) := by decide +kernel
theorem dX5_write_21 : decode cX5_write 21 = .ok (.getfield 29, 3) := by decide +kernel
theorem dX5_write_24 : decode cX5_write 24 = .ok (.iload 4, 2) := by decide +kernel
theorem dX5_write_26 : decode cX5_write 26 = .ok (.aload_n 0, 1) := by decide +kernel
theorem dX5_write_27 : decode cX5_write 27 = .ok (.getfield 29, 3) := by decide +kernel
theorem dX5_write_30 : decode cX5_write 30 = .ok (.iload 4, 2) := by decide +kernel
theorem dX5_write_32 : decode cX5_write 32 = .ok (.bipush 15, 2) := by decide +kernel
theorem dX5_write_34 : decode cX5_write 34 = .ok (.iadd, 1) := by decide +kernel
theorem dX5_write_35 : decode cX5_write 35 = .ok (.iaload, 1) := by decide +kernel
theorem dX5_write_36 : decode cX5_write 36 = .ok (.iastore, 1) := by decide +kernel
theorem dX5_write_37 : decode cX5_write 37 = .ok (.iinc 4 1, 3) := by decide +kernel
theorem dX5_write_40 : decode cX5_write 40 = .ok (.goto (-28), 3) := by decide +kernel
theorem dX5_write_43 : decode cX5_write 43 = .ok (.aload_n 0, 1) := by decide +kernel
theorem dX5_write_44 : decode cX5_write 44 = .ok (.dup, 1) := by decide +kernel
theorem dX5_write_45 : decode cX5_write 45 = .ok (.getfield 59, 3) := by decide +kernel
theorem dX5_write_48 : decode cX5_write 48 = .ok (.iconst 1, 1) := by decide +kernel
theorem dX5_write_49 : decode cX5_write 49 = .ok (.isub, 1) := by decide +kernel
theorem dX5_write_50 : decode cX5_write 50 = .ok (.putfield 59, 3) := by decide +kernel
theorem dX5_write_53 : decode cX5_write 53 = .ok (.aload_n 0, 1) := by decide +kernel
theorem dX5_write_54 : decode cX5_write 54 = .ok (.getfield 29, 3) := by decide +kernel
theorem dX5_write_57 : decode cX5_write 57 = .ok (.bipush 15, 2) := by decide +kernel
theorem dX5_write_59 : decode cX5_write 59 = .ok (.aload_n 0, 1) := by decide +kernel
theorem dX5_write_60 : decode cX5_write 60 = .ok (.getfield 59, 3) := by decide +kernel
theorem dX5_write_63 : decode cX5_write 63 = .ok (.imul, 1) := by decide +kernel
theorem dX5_write_64 : decode cX5_write 64 = .ok (.iload_n 1, 1) := by decide +kernel
theorem dX5_write_65 : decode cX5_write 65 = .ok (.iastore, 1) := by decide +kernel
theorem dX5_write_66 : decode cX5_write 66 = .ok (.aload_n 0, 1) := by decide +kernel
theorem dX5_write_67 : decode cX5_write 67 = .ok (.getfield 29, 3) := by decide +kernel
theorem dX5_write_70 : decode cX5_write 70 = .ok (.bipush 15, 2) := by decide +kernel
theorem dX5_write_72 : decode cX5_write 72 = .ok (.aload_n 0, 1) := by decide +kernel
theorem dX5_write_73 : decode cX5_write 73 = .ok (.getfield 59, 3) := by decide +kernel
theorem dX5_write_76 : decode cX5_write 76 = .ok (.imul, 1) := by decide +kernel
theorem dX5_write_77 : decode cX5_write 77 = .ok (.iconst 1, 1) := by decide +kernel
theorem dX5_write_78 : decode cX5_write 78 = .ok (.iadd, 1) := by decide +kernel
theorem dX5_write_79 : decode cX5_write 79 = .ok (.iload_n 2, 1) := by decide +kernel
theorem dX5_write_80 : decode cX5_write 80 = .ok (.iastore, 1) := by decide +kernel
theorem dX5_write_81 : decode cX5_write 81 = .ok (.aload_n 0, 1) := by decide +kernel
theorem dX5_write_82 : decode cX5_write 82 = .ok (.getfield 29, 3) := by decide +kernel
theorem dX5_write_85 : decode cX5_write 85 = .ok (.bipush 15, 2) := by decide +kernel
theorem dX5_write_87 : decode cX5_write 87 = .ok (.aload_n 0, 1) := by decide +kernel
theorem dX5_write_88 : decode cX5_write 88 = .ok (.getfield 59, 3) := by decide +kernel
theorem dX5_write_91 : decode cX5_write 91 = .ok (.imul, 1) := by decide +kernel
theorem dX5_write_92 : decode cX5_write 92 = .ok (.iconst 2, 1) := by decide +kernel
theorem dX5_write_93 : decode cX5_write 93 = .ok (.iadd, 1) := by decide +kernel
theorem dX5_write_94 : decode cX5_write 94 = .ok (.iload_n 3, 1) := by decide +kernel
theorem dX5_write_95 : decode cX5_write 95 = .ok (.iastore, 1) := by decide +kernel
theorem dX5_write_96 : decode cX5_write 96 = .ok (.aload_n 0, 1) := by decide +kernel
theorem dX5_write_97 : decode cX5_write 97 = .ok (.dup, 1) := by decide +kernel
theorem dX5_write_98 : decode cX5_write 98 = .ok (.getfield 59, 3) := by decide +kernel
theorem dX5_write_101 : decode cX5_write 101 = .ok (.iconst 1, 1) := by decide +kernel
theorem dX5_write_102 : decode cX5_write 102 = .ok (.iadd, 1) := by decide +kernel
theorem dX5_write_103 : decode cX5_write 103 = .ok (.putfield 59, 3) := by decide +kernel
theorem dX5_write_106 : decode cX5_write 106 = .ok (.aload_n 0, 1) := by decide +kernel
theorem dX5_write_107 : decode cX5_write 107 = .ok (.aload_n 0, 1) := by decide +kernel
theorem dX5_write_108 : decode cX5_write 108 = .ok (.getfield 59, 3) := by decide +kernel
theorem dX5_write_111 : decode cX5_write 111 = .ok (.putfield 56, 3) := by decide +kernel
theorem dX5_write_114 : decode cX5_write 114 = .ok (.aload_n 0, 1) := by decide +kernel
theorem dX5_write_115 : decode cX5_write 115 = .ok (.iconst 0, 1) := by decide +kernel
theorem dX5_write_116 : decode cX5_write 116 = .ok (.putfield 62, 3) := by decide +kernel
theorem dX5_write_119 : decode cX5_write 119 = .ok (.return_, 1) := by decide +kernel
theorem dX5_keepThirds_0 : decode cX5_keepThirds 0 = .ok (.iconst 0, 1) := by decide +kernel
theorem dX5_keepThirds_1 : decode cX5_keepThirds 1 = .ok (.istore 4, 2) := by decide +kernel
theorem dX5_keepThirds_3 : decode cX5_keepThirds 3 = .ok (.iload 4, 2) := by decide +kernel
theorem dX5_keepThirds_5 : decode cX5_keepThirds 5 = .ok (.iconst 3, 1) := by decide +kernel
theorem dX5_keepThirds_6 : decode cX5_keepThirds 6 = .ok (.if_icmp .ge 51, 3) := by decide +kernel
theorem dX5_keepThirds_9 : decode cX5_keepThirds 9 = .ok (.aload_n 0, 1) := by decide +kernel
theorem dX5_keepThirds_10 : decode cX5_keepThirds 10 = .ok (.getfield 29, 3) := by decide +kernel
theorem dX5_keepThirds_13 : decode cX5_keepThirds 13 = .ok (.iload_n 1, 1) := by decide +kernel
theorem dX5_keepThirds_14 : decode cX5_keepThirds 14 = .ok (.iload 4, 2) := by decide +kernel
theorem dX5_keepThirds_16 : decode cX5_keepThirds 16 = .ok (.iadd, 1) := by decide +kernel
theorem dX5_keepThirds_17 : decode cX5_keepThirds 17 = .ok (.aload_n 0, 1) := by decide +kernel
theorem dX5_keepThirds_18 : decode cX5_keepThirds 18 = .ok (.getfield 13, 3) := by decide +kernel
theorem dX5_keepThirds_21 : decode cX5_keepThirds 21 = .ok (.iconst 3, 1) := by decide +kernel
theorem dX5_keepThirds_22 : decode cX5_keepThirds 22 = .ok (.iload_n 2, 1) := by decide +kernel
theorem dX5_keepThirds_23 : decode cX5_keepThirds 23 = .ok (.imul, 1) := by decide +kernel
theorem dX5_keepThirds_24 : decode cX5_keepThirds 24 = .ok (.iload 4, 2) := by decide +kernel
theorem dX5_keepThirds_26 : decode cX5_keepThirds 26 = .ok (.iadd, 1) := by decide +kernel
theorem dX5_keepThirds_27 : decode cX5_keepThirds 27 = .ok (.iaload, 1) := by decide +kernel
theorem dX5_keepThirds_28 : decode cX5_keepThirds 28 = .ok (.iastore, 1) := by decide +kernel
theorem dX5_keepThirds_29 : decode cX5_keepThirds 29 = .ok (.aload_n 0, 1) := by decide +kernel
theorem dX5_keepThirds_30 : decode cX5_keepThirds 30 = .ok (.getfield 29, 3) := by decide +kernel
theorem dX5_keepThirds_33 : decode cX5_keepThirds 33 = .ok (.iload_n 1, 1) := by decide +kernel
theorem dX5_keepThirds_34 : decode cX5_keepThirds 34 = .ok (.iconst 3, 1) := by decide +kernel
theorem dX5_keepThirds_35 : decode cX5_keepThirds 35 = .ok (.iadd, 1) := by decide +kernel
theorem dX5_keepThirds_36 : decode cX5_keepThirds 36 = .ok (.iload 4, 2) := by decide +kernel
theorem dX5_keepThirds_38 : decode cX5_keepThirds 38 = .ok (.iadd, 1) := by decide +kernel
theorem dX5_keepThirds_39 : decode cX5_keepThirds 39 = .ok (.aload_n 0, 1) := by decide +kernel
theorem dX5_keepThirds_40 : decode cX5_keepThirds 40 = .ok (.getfield 13, 3) := by decide +kernel
theorem dX5_keepThirds_43 : decode cX5_keepThirds 43 = .ok (.iconst 3, 1) := by decide +kernel
theorem dX5_keepThirds_44 : decode cX5_keepThirds 44 = .ok (.iload_n 3, 1) := by decide +kernel
theorem dX5_keepThirds_45 : decode cX5_keepThirds 45 = .ok (.imul, 1) := by decide +kernel
theorem dX5_keepThirds_46 : decode cX5_keepThirds 46 = .ok (.iload 4, 2) := by decide +kernel
theorem dX5_keepThirds_48 : decode cX5_keepThirds 48 = .ok (.iadd, 1) := by decide +kernel
theorem dX5_keepThirds_49 : decode cX5_keepThirds 49 = .ok (.iaload, 1) := by decide +kernel
theorem dX5_keepThirds_50 : decode cX5_keepThirds 50 = .ok (.iastore, 1) := by decide +kernel
theorem dX5_keepThirds_51 : decode cX5_keepThirds 51 = .ok (.iinc 4 1, 3) := by decide +kernel
theorem dX5_keepThirds_54 : decode cX5_keepThirds 54 = .ok (.goto (-51), 3) := by decide +kernel
theorem dX5_keepThirds_57 : decode cX5_keepThirds 57 = .ok (.return_, 1) := by decide +kernel
theorem dX5_takeThirds_0 : decode cX5_takeThirds 0 = .ok (.iconst 0, 1) := by decide +kernel
theorem dX5_takeThirds_1 : decode cX5_takeThirds 1 = .ok (.istore 4, 2) := by decide +kernel
theorem dX5_takeThirds_3 : decode cX5_takeThirds 3 = .ok (.iload 4, 2) := by decide +kernel
theorem dX5_takeThirds_5 : decode cX5_takeThirds 5 = .ok (.iconst 3, 1) := by decide +kernel
theorem dX5_takeThirds_6 : decode cX5_takeThirds 6 = .ok (.if_icmp .ge 51, 3) := by decide +kernel
theorem dX5_takeThirds_9 : decode cX5_takeThirds 9 = .ok (.aload_n 0, 1) := by decide +kernel
theorem dX5_takeThirds_10 : decode cX5_takeThirds 10 = .ok (.getfield 13, 3) := by decide +kernel
theorem dX5_takeThirds_13 : decode cX5_takeThirds 13 = .ok (.iconst 3, 1) := by decide +kernel
theorem dX5_takeThirds_14 : decode cX5_takeThirds 14 = .ok (.iload_n 2, 1) := by decide +kernel
theorem dX5_takeThirds_15 : decode cX5_takeThirds 15 = .ok (.imul, 1) := by decide +kernel
theorem dX5_takeThirds_16 : decode cX5_takeThirds 16 = .ok (.iload 4, 2) := by decide +kernel
theorem dX5_takeThirds_18 : decode cX5_takeThirds 18 = .ok (.iadd, 1) := by decide +kernel
theorem dX5_takeThirds_19 : decode cX5_takeThirds 19 = .ok (.aload_n 0, 1) := by decide +kernel
theorem dX5_takeThirds_20 : decode cX5_takeThirds 20 = .ok (.getfield 29, 3) := by decide +kernel
theorem dX5_takeThirds_23 : decode cX5_takeThirds 23 = .ok (.iload_n 1, 1) := by decide +kernel
theorem dX5_takeThirds_24 : decode cX5_takeThirds 24 = .ok (.iload 4, 2) := by decide +kernel
theorem dX5_takeThirds_26 : decode cX5_takeThirds 26 = .ok (.iadd, 1) := by decide +kernel
theorem dX5_takeThirds_27 : decode cX5_takeThirds 27 = .ok (.iaload, 1) := by decide +kernel
theorem dX5_takeThirds_28 : decode cX5_takeThirds 28 = .ok (.iastore, 1) := by decide +kernel
theorem dX5_takeThirds_29 : decode cX5_takeThirds 29 = .ok (.aload_n 0, 1) := by decide +kernel
theorem dX5_takeThirds_30 : decode cX5_takeThirds 30 = .ok (.getfield 13, 3) := by decide +kernel
theorem dX5_takeThirds_33 : decode cX5_takeThirds 33 = .ok (.iconst 3, 1) := by decide +kernel
theorem dX5_takeThirds_34 : decode cX5_takeThirds 34 = .ok (.iload_n 3, 1) := by decide +kernel
theorem dX5_takeThirds_35 : decode cX5_takeThirds 35 = .ok (.imul, 1) := by decide +kernel
theorem dX5_takeThirds_36 : decode cX5_takeThirds 36 = .ok (.iload 4, 2) := by decide +kernel
theorem dX5_takeThirds_38 : decode cX5_takeThirds 38 = .ok (.iadd, 1) := by decide +kernel
theorem dX5_takeThirds_39 : decode cX5_takeThirds 39 = .ok (.aload_n 0, 1) := by decide +kernel
theorem dX5_takeThirds_40 : decode cX5_takeThirds 40 = .ok (.getfield 29, 3) := by decide +kernel
theorem dX5_takeThirds_43 : decode cX5_takeThirds 43 = .ok (.iload_n 1, 1) := by decide +kernel
theorem dX5_takeThirds_44 : decode cX5_takeThirds 44 = .ok (.iconst 3, 1) := by decide +kernel
theorem dX5_takeThirds_45 : decode cX5_takeThirds 45 = .ok (.iadd, 1) := by decide +kernel
theorem dX5_takeThirds_46 : decode cX5_takeThirds 46 = .ok (.iload 4, 2) := by decide +kernel
theorem dX5_takeThirds_48 : decode cX5_takeThirds 48 = .ok (.iadd, 1) := by decide +kernel
theorem dX5_takeThirds_49 : decode cX5_takeThirds 49 = .ok (.iaload, 1) := by decide +kernel
theorem dX5_takeThirds_50 : decode cX5_takeThirds 50 = .ok (.iastore, 1) := by decide +kernel
theorem dX5_takeThirds_51 : decode cX5_takeThirds 51 = .ok (.iinc 4 1, 3) := by decide +kernel
theorem dX5_takeThirds_54 : decode cX5_takeThirds 54 = .ok (.goto (-51), 3) := by decide +kernel
theorem dX5_takeThirds_57 : decode cX5_takeThirds 57 = .ok (.return_, 1) := by decide +kernel
theorem dX5_third_0 : decode cX5_third 0 = .ok (.aload_n 0, 1) := by decide +kernel
theorem dX5_third_1 : decode cX5_third 1 = .ok (.iload_n 1, 1) := by decide +kernel
theorem dX5_third_2 : decode cX5_third 2 = .ok (.iload_n 2, 1) := by decide +kernel
theorem dX5_third_3 : decode cX5_third 3 = .ok (.invokevirtual 78, 3) := by decide +kernel
theorem dX5_third_6 : decode cX5_third 6 = .ok (.ifCond .eq 17, 3) := by decide +kernel
theorem dX5_third_9 : decode cX5_third 9 = .ok (.aload_n 0, 1) := by decide +kernel
theorem dX5_third_10 : decode cX5_third 10 = .ok (.iload_n 2, 1) := by decide +kernel
theorem dX5_third_11 : decode cX5_third 11 = .ok (.iload_n 3, 1) := by decide +kernel
theorem dX5_third_12 : decode cX5_third 12 = .ok (.invokevirtual 78, 3) := by decide +kernel
theorem dX5_third_15 : decode cX5_third 15 = .ok (.ifCond .eq 8, 3) := by decide +kernel
theorem dX5_third_18 : decode cX5_third 18 = .ok (.iload_n 1, 1) := by decide +kernel
theorem dX5_third_19 : decode cX5_third 19 = .ok (.iload_n 3, 1) := by decide +kernel
theorem dX5_third_20 : decode cX5_third 20 = .ok (.if_icmp .ne 5, 3) := by decide +kernel
theorem dX5_third_23 : decode cX5_third 23 = .ok (.iconst (-1), 1) := by decide +kernel
theorem dX5_third_24 : decode cX5_third 24 = .ok (.ireturn, 1) := by decide +kernel
theorem dX5_third_25 : decode cX5_third 25 = .ok (.aload_n 0, 1) := by decide +kernel
theorem dX5_third_26 : decode cX5_third 26 = .ok (.getfield 53, 3) := by decide +kernel
theorem dX5_third_29 : decode cX5_third 29 = .ok (.bipush 12, 2) := by decide +kernel
theorem dX5_third_31 : decode cX5_third 31 = .ok (.if_icmp .ne 6, 3) := by decide +kernel
theorem dX5_third_34 : decode cX5_third 34 = .ok (.bipush (-4), 2) := by decide +kernel
theorem dX5_third_36 : decode cX5_third 36 = .ok (.ireturn, 1) := by decide +kernel
theorem dX5_third_37 : decode cX5_third 37 = .ok (.aload_n 0, 1) := by decide +kernel
theorem dX5_third_38 : decode cX5_third 38 = .ok (.iload_n 1, 1) := by decide +kernel
theorem dX5_third_39 : decode cX5_third 39 = .ok (.iload_n 2, 1) := by decide +kernel
theorem dX5_third_40 : decode cX5_third 40 = .ok (.invokevirtual 74, 3) := by decide +kernel
theorem dX5_third_43 : decode cX5_third 43 = .ok (.ifCond .ge 21, 3) := by decide +kernel
theorem dX5_third_46 : decode cX5_third 46 = .ok (.aload_n 0, 1) := by decide +kernel
theorem dX5_third_47 : decode cX5_third 47 = .ok (.iload_n 2, 1) := by decide +kernel
theorem dX5_third_48 : decode cX5_third 48 = .ok (.iload_n 3, 1) := by decide +kernel
theorem dX5_third_49 : decode cX5_third 49 = .ok (.invokevirtual 74, 3) := by decide +kernel
theorem dX5_third_52 : decode cX5_third 52 = .ok (.ifCond .ge 12, 3) := by decide +kernel
theorem dX5_third_55 : decode cX5_third 55 = .ok (.aload_n 0, 1) := by decide +kernel
theorem dX5_third_56 : decode cX5_third 56 = .ok (.iload_n 3, 1) := by decide +kernel
theorem dX5_third_57 : decode cX5_third 57 = .ok (.iload_n 1, 1) := by decide +kernel
theorem dX5_third_58 : decode cX5_third 58 = .ok (.invokevirtual 74, 3) := by decide +kernel
theorem dX5_third_61 : decode cX5_third 61 = .ok (.ifCond .lt 6, 3) := by decide +kernel
theorem dX5_third_64 : decode cX5_third 64 = .ok (.bipush (-5), 2) := by decide +kernel
theorem dX5_third_66 : decode cX5_third 66 = .ok (.ireturn, 1) := by decide +kernel
theorem dX5_third_67 : decode cX5_third 67 = .ok (.aload_n 0, 1) := by decide +kernel
theorem dX5_third_68 : decode cX5_third 68 = .ok (.aload_n 0, 1) := by decide +kernel
theorem dX5_third_69 : decode cX5_third 69 = .ok (.getfield 53, 3) := by decide +kernel
theorem dX5_third_72 : decode cX5_third 72 = .ok (.iload_n 1, 1) := by decide +kernel
theorem dX5_third_73 : decode cX5_third 73 = .ok (.iload_n 2, 1) := by decide +kernel
theorem dX5_third_74 : decode cX5_third 74 = .ok (.iload_n 3, 1) := by decide +kernel
theorem dX5_third_75 : decode cX5_third 75 = .ok (.invokevirtual 82, 3) := by decide +kernel
theorem dX5_third_78 : decode cX5_third 78 = .ok (.aload_n 0, 1) := by decide +kernel
theorem dX5_third_79 : decode cX5_third 79 = .ok (.iconst 0, 1) := by decide +kernel
theorem dX5_third_80 : decode cX5_third 80 = .ok (.aload_n 0, 1) := by decide +kernel
theorem dX5_third_81 : decode cX5_third 81 = .ok (.getfield 53, 3) := by decide +kernel
theorem dX5_third_84 : decode cX5_third 84 = .ok (.aload_n 0, 1) := by decide +kernel
theorem dX5_third_85 : decode cX5_third 85 = .ok (.getfield 53, 3) := by decide +kernel
theorem dX5_third_88 : decode cX5_third 88 = .ok (.invokevirtual 86, 3) := by decide +kernel
theorem dX5_third_91 : decode cX5_third 91 = .ok (.aload_n 0, 1) := by decide +kernel
theorem dX5_third_92 : decode cX5_third 92 = .ok (.bipush 15, 2) := by decide +kernel
theorem dX5_third_94 : decode cX5_third 94 = .ok (.aload_n 0, 1) := by decide +kernel
theorem dX5_third_95 : decode cX5_third 95 = .ok (.getfield 59, 3) := by decide +kernel
theorem dX5_third_98 : decode cX5_third 98 = .ok (.iconst 1, 1) := by decide +kernel
theorem dX5_third_99 : decode cX5_third 99 = .ok (.isub, 1) := by decide +kernel
theorem dX5_third_100 : decode cX5_third 100 = .ok (.imul, 1) := by decide +kernel
theorem dX5_third_101 : decode cX5_third 101 = .ok (.bipush 9, 2) := by decide +kernel
theorem dX5_third_103 : decode cX5_third 103 = .ok (.iadd, 1) := by decide +kernel
theorem dX5_third_104 : decode cX5_third 104 = .ok (.aload_n 0, 1) := by decide +kernel
theorem dX5_third_105 : decode cX5_third 105 = .ok (.getfield 53, 3) := by decide +kernel
theorem dX5_third_108 : decode cX5_third 108 = .ok (.aload_n 0, 1) := by decide +kernel
theorem dX5_third_109 : decode cX5_third 109 = .ok (.getfield 53, 3) := by decide +kernel
theorem dX5_third_112 : decode cX5_third 112 = .ok (.invokevirtual 90, 3) := by decide +kernel
theorem dX5_third_115 : decode cX5_third 115 = .ok (.aload_n 0, 1) := by decide +kernel
theorem dX5_third_116 : decode cX5_third 116 = .ok (.dup, 1) := by decide +kernel
theorem dX5_third_117 : decode cX5_third 117 = .ok (.getfield 53, 3) := by decide +kernel
theorem dX5_third_120 : decode cX5_third 120 = .ok (.iconst 1, 1) := by decide +kernel
theorem dX5_third_121 : decode cX5_third 121 = .ok (.iadd, 1) := by decide +kernel
theorem dX5_third_122 : decode cX5_third 122 = .ok (.putfield 53, 3) := by decide +kernel
theorem dX5_third_125 : decode cX5_third 125 = .ok (.aload_n 0, 1) := by decide +kernel
theorem dX5_third_126 : decode cX5_third 126 = .ok (.getfield 53, 3) := by decide +kernel
theorem dX5_third_129 : decode cX5_third 129 = .ok (.iconst 1, 1) := by decide +kernel
theorem dX5_third_130 : decode cX5_third 130 = .ok (.isub, 1) := by decide +kernel
theorem dX5_third_131 : decode cX5_third 131 = .ok (.ireturn, 1) := by decide +kernel
theorem dX5_at_0 : decode cX5_at 0 = .ok (.iload_n 1, 1) := by decide +kernel
theorem dX5_at_1 : decode cX5_at 1 = .ok (.iconst 0, 1) := by decide +kernel
theorem dX5_at_2 : decode cX5_at 2 = .ok (.iconst 3, 1) := by decide +kernel
theorem dX5_at_3 : decode cX5_at 3 = .ok (.aload_n 0, 1) := by decide +kernel
theorem dX5_at_4 : decode cX5_at 4 = .ok (.getfield 53, 3) := by decide +kernel
theorem dX5_at_7 : decode cX5_at 7 = .ok (.imul, 1) := by decide +kernel
theorem dX5_at_8 : decode cX5_at 8 = .ok (.iconst 1, 1) := by decide +kernel
theorem dX5_at_9 : decode cX5_at 9 = .ok (.isub, 1) := by decide +kernel
theorem dX5_at_10 : decode cX5_at 10 = .ok (.invokestatic 66, 3) := by decide +kernel
theorem dX5_at_13 : decode cX5_at 13 = .ok (.ifCond .eq 12, 3) := by decide +kernel
theorem dX5_at_16 : decode cX5_at 16 = .ok (.aload_n 0, 1) := by decide +kernel
theorem dX5_at_17 : decode cX5_at 17 = .ok (.getfield 13, 3) := by decide +kernel
theorem dX5_at_20 : decode cX5_at 20 = .ok (.iload_n 1, 1) := by decide +kernel
theorem dX5_at_21 : decode cX5_at 21 = .ok (.iaload, 1) := by decide +kernel
theorem dX5_at_22 : decode cX5_at 22 = .ok (.goto 4, 3) := by decide +kernel
theorem dX5_at_25 : decode cX5_at 25 = .ok (.iconst (-1), 1) := by decide +kernel
theorem dX5_at_26 : decode cX5_at 26 = .ok (.ireturn, 1) := by decide +kernel
theorem dX5_side_0 : decode cX5_side 0 = .ok (.aload_n 0, 1) := by decide +kernel
theorem dX5_side_1 : decode cX5_side 1 = .ok (.iload_n 1, 1) := by decide +kernel
theorem dX5_side_2 : decode cX5_side 2 = .ok (.iload_n 2, 1) := by decide +kernel
theorem dX5_side_3 : decode cX5_side 3 = .ok (.invokevirtual 78, 3) := by decide +kernel
theorem dX5_side_6 : decode cX5_side 6 = .ok (.ifCond .eq 12, 3) := by decide +kernel
theorem dX5_side_9 : decode cX5_side 9 = .ok (.aload_n 0, 1) := by decide +kernel
theorem dX5_side_10 : decode cX5_side 10 = .ok (.iload_n 1, 1) := by decide +kernel
theorem dX5_side_11 : decode cX5_side 11 = .ok (.iload_n 2, 1) := by decide +kernel
theorem dX5_side_12 : decode cX5_side 12 = .ok (.invokevirtual 93, 3) := by decide +kernel
theorem dX5_side_15 : decode cX5_side 15 = .ok (.goto 4, 3) := by decide +kernel
theorem dX5_side_18 : decode cX5_side 18 = .ok (.iconst (-1), 1) := by decide +kernel
theorem dX5_side_19 : decode cX5_side 19 = .ok (.ireturn, 1) := by decide +kernel
theorem dX5_arrow_0 : decode cX5_arrow 0 = .ok (.aload_n 0, 1) := by decide +kernel
theorem dX5_arrow_1 : decode cX5_arrow 1 = .ok (.iload_n 1, 1) := by decide +kernel
theorem dX5_arrow_2 : decode cX5_arrow 2 = .ok (.iload_n 2, 1) := by decide +kernel
theorem dX5_arrow_3 : decode cX5_arrow 3 = .ok (.invokevirtual 78, 3) := by decide +kernel
theorem dX5_arrow_6 : decode cX5_arrow 6 = .ok (.ifCond .eq 12, 3) := by decide +kernel
theorem dX5_arrow_9 : decode cX5_arrow 9 = .ok (.aload_n 0, 1) := by decide +kernel
theorem dX5_arrow_10 : decode cX5_arrow 10 = .ok (.iload_n 1, 1) := by decide +kernel
theorem dX5_arrow_11 : decode cX5_arrow 11 = .ok (.iload_n 2, 1) := by decide +kernel
theorem dX5_arrow_12 : decode cX5_arrow 12 = .ok (.invokevirtual 74, 3) := by decide +kernel
theorem dX5_arrow_15 : decode cX5_arrow 15 = .ok (.goto 4, 3) := by decide +kernel
theorem dX5_arrow_18 : decode cX5_arrow 18 = .ok (.iconst (-1), 1) := by decide +kernel
theorem dX5_arrow_19 : decode cX5_arrow 19 = .ok (.ireturn, 1) := by decide +kernel
theorem dX5_oppositeCorner_0 : decode cX5_oppositeCorner 0 = .ok (.iconst 3, 1) := by decide +kernel
theorem dX5_oppositeCorner_1 : decode cX5_oppositeCorner 1 = .ok (.iload_n 1, 1) := by decide +kernel
theorem dX5_oppositeCorner_2 : decode cX5_oppositeCorner 2 = .ok (.imul, 1) := by decide +kernel
theorem dX5_oppositeCorner_3 : decode cX5_oppositeCorner 3 = .ok (.istore 4, 2) := by decide +kernel
theorem dX5_oppositeCorner_5 : decode cX5_oppositeCorner 5 = .ok (.aload_n 0, 1) := by decide +kernel
theorem dX5_oppositeCorner_6 : decode cX5_oppositeCorner 6 = .ok (.getfield 13, 3) := by decide +kernel
theorem dX5_oppositeCorner_9 : decode cX5_oppositeCorner 9 = .ok (.iload 4, 2) := by decide +kernel
theorem dX5_oppositeCorner_11 : decode cX5_oppositeCorner 11 = .ok (.iaload, 1) := by decide +kernel
theorem dX5_oppositeCorner_12 : decode cX5_oppositeCorner 12 = .ok (.iload_n 2, 1) := by decide +kernel
theorem dX5_oppositeCorner_13 : decode cX5_oppositeCorner 13 = .ok (.if_icmp .eq 14, 3) := by decide +kernel
theorem dX5_oppositeCorner_16 : decode cX5_oppositeCorner 16 = .ok (.aload_n 0, 1) := by decide +kernel
theorem dX5_oppositeCorner_17 : decode cX5_oppositeCorner 17 = .ok (.getfield 13, 3) := by decide +kernel
theorem dX5_oppositeCorner_20 : decode cX5_oppositeCorner 20 = .ok (.iload 4, 2) := by decide +kernel
theorem dX5_oppositeCorner_22 : decode cX5_oppositeCorner 22 = .ok (.iaload, 1) := by decide +kernel
theorem dX5_oppositeCorner_23 : decode cX5_oppositeCorner 23 = .ok (.iload_n 3, 1) := by decide +kernel
theorem dX5_oppositeCorner_24 : decode cX5_oppositeCorner 24 = .ok (.if_icmp .ne 9, 3) := by decide +kernel
theorem dX5_oppositeCorner_27 : decode cX5_oppositeCorner 27 = .ok (.iinc 4 1, 3) := by decide +kernel
theorem dX5_oppositeCorner_30 : decode cX5_oppositeCorner 30 = .ok (.goto (-25), 3) := by decide +kernel
theorem dX5_oppositeCorner_33 : decode cX5_oppositeCorner 33 = .ok (.iload 4, 2) := by decide +kernel
theorem dX5_oppositeCorner_35 : decode cX5_oppositeCorner 35 = .ok (.ireturn, 1) := by decide +kernel
theorem dX5_turn_0 : decode cX5_turn 0 = .ok (.aload_n 0, 1) := by decide +kernel
theorem dX5_turn_1 : decode cX5_turn 1 = .ok (.iload_n 1, 1) := by decide +kernel
theorem dX5_turn_2 : decode cX5_turn 2 = .ok (.iload_n 2, 1) := by decide +kernel
theorem dX5_turn_3 : decode cX5_turn 3 = .ok (.invokevirtual 78, 3) := by decide +kernel
theorem dX5_turn_6 : decode cX5_turn 6 = .ok (.ifCond .eq 12, 3) := by decide +kernel
theorem dX5_turn_9 : decode cX5_turn 9 = .ok (.aload_n 0, 1) := by decide +kernel
theorem dX5_turn_10 : decode cX5_turn 10 = .ok (.iload_n 1, 1) := by decide +kernel
theorem dX5_turn_11 : decode cX5_turn 11 = .ok (.iload_n 2, 1) := by decide +kernel
theorem dX5_turn_12 : decode cX5_turn 12 = .ok (.invokevirtual 93, 3) := by decide +kernel
theorem dX5_turn_15 : decode cX5_turn 15 = .ok (.ifCond .ne 5, 3) := by decide +kernel
theorem dX5_turn_18 : decode cX5_turn 18 = .ok (.iconst (-1), 1) := by decide +kernel
theorem dX5_turn_19 : decode cX5_turn 19 = .ok (.ireturn, 1) := by decide +kernel
theorem dX5_turn_20 : decode cX5_turn 20 = .ok (.aload_n 0, 1) := by decide +kernel
theorem dX5_turn_21 : decode cX5_turn 21 = .ok (.iload_n 1, 1) := by decide +kernel
theorem dX5_turn_22 : decode cX5_turn 22 = .ok (.iload_n 2, 1) := by decide +kernel
theorem dX5_turn_23 : decode cX5_turn 23 = .ok (.invokevirtual 93, 3) := by decide +kernel
theorem dX5_turn_26 : decode cX5_turn 26 = .ok (.iconst 1, 1) := by decide +kernel
theorem dX5_turn_27 : decode cX5_turn 27 = .ok (.if_icmp .ne 6, 3) := by decide +kernel
theorem dX5_turn_30 : decode cX5_turn 30 = .ok (.bipush (-3), 2) := by decide +kernel
theorem dX5_turn_32 : decode cX5_turn 32 = .ok (.ireturn, 1) := by decide +kernel
theorem dX5_turn_33 : decode cX5_turn 33 = .ok (.aload_n 0, 1) := by decide +kernel
theorem dX5_turn_34 : decode cX5_turn 34 = .ok (.iload_n 1, 1) := by decide +kernel
theorem dX5_turn_35 : decode cX5_turn 35 = .ok (.iload_n 2, 1) := by decide +kernel
theorem dX5_turn_36 : decode cX5_turn 36 = .ok (.invokevirtual 74, 3) := by decide +kernel
theorem dX5_turn_39 : decode cX5_turn 39 = .ok (.istore_n 3, 1) := by decide +kernel
theorem dX5_turn_40 : decode cX5_turn 40 = .ok (.aload_n 0, 1) := by decide +kernel
theorem dX5_turn_41 : decode cX5_turn 41 = .ok (.iload_n 2, 1) := by decide +kernel
theorem dX5_turn_42 : decode cX5_turn 42 = .ok (.iload_n 1, 1) := by decide +kernel
theorem dX5_turn_43 : decode cX5_turn 43 = .ok (.invokevirtual 74, 3) := by decide +kernel
theorem dX5_turn_46 : decode cX5_turn 46 = .ok (.istore 4, 2) := by decide +kernel
theorem dX5_turn_48 : decode cX5_turn 48 = .ok (.aload_n 0, 1) := by decide +kernel
theorem dX5_turn_49 : decode cX5_turn 49 = .ok (.getfield 13, 3) := by decide +kernel
theorem dX5_turn_52 : decode cX5_turn 52 = .ok (.aload_n 0, 1) := by decide +kernel
theorem dX5_turn_53 : decode cX5_turn 53 = .ok (.iload_n 3, 1) := by decide +kernel
theorem dX5_turn_54 : decode cX5_turn 54 = .ok (.iload_n 1, 1) := by decide +kernel
theorem dX5_turn_55 : decode cX5_turn 55 = .ok (.iload_n 2, 1) := by decide +kernel
theorem dX5_turn_56 : decode cX5_turn 56 = .ok (.invokevirtual 96, 3) := by decide +kernel
theorem dX5_turn_59 : decode cX5_turn 59 = .ok (.iaload, 1) := by decide +kernel
theorem dX5_turn_60 : decode cX5_turn 60 = .ok (.istore 5, 2) := by decide +kernel
theorem dX5_turn_62 : decode cX5_turn 62 = .ok (.aload_n 0, 1) := by decide +kernel
theorem dX5_turn_63 : decode cX5_turn 63 = .ok (.getfield 13, 3) := by decide +kernel
theorem dX5_turn_66 : decode cX5_turn 66 = .ok (.aload_n 0, 1) := by decide +kernel
theorem dX5_turn_67 : decode cX5_turn 67 = .ok (.iload 4, 2) := by decide +kernel
theorem dX5_turn_69 : decode cX5_turn 69 = .ok (.iload_n 1, 1) := by decide +kernel
theorem dX5_turn_70 : decode cX5_turn 70 = .ok (.iload_n 2, 1) := by decide +kernel
theorem dX5_turn_71 : decode cX5_turn 71 = .ok (.invokevirtual 96, 3) := by decide +kernel
theorem dX5_turn_74 : decode cX5_turn 74 = .ok (.iaload, 1) := by decide +kernel
theorem dX5_turn_75 : decode cX5_turn 75 = .ok (.istore 6, 2) := by decide +kernel
theorem dX5_turn_77 : decode cX5_turn 77 = .ok (.iload 5, 2) := by decide +kernel
theorem dX5_turn_79 : decode cX5_turn 79 = .ok (.iload 6, 2) := by decide +kernel
theorem dX5_turn_81 : decode cX5_turn 81 = .ok (.if_icmp .eq 14, 3) := by decide +kernel
theorem dX5_turn_84 : decode cX5_turn 84 = .ok (.aload_n 0, 1) := by decide +kernel
theorem dX5_turn_85 : decode cX5_turn 85 = .ok (.iload 5, 2) := by decide +kernel
theorem dX5_turn_87 : decode cX5_turn 87 = .ok (.iload 6, 2) := by decide +kernel
theorem dX5_turn_89 : decode cX5_turn 89 = .ok (.invokevirtual 93, 3) := by decide +kernel
theorem dX5_turn_92 : decode cX5_turn 92 = .ok (.ifCond .le 6, 3) := by decide +kernel
theorem dX5_turn_95 : decode cX5_turn 95 = .ok (.bipush (-5), 2) := by decide +kernel
theorem dX5_turn_97 : decode cX5_turn 97 = .ok (.ireturn, 1) := by decide +kernel
theorem dX5_turn_98 : decode cX5_turn 98 = .ok (.aload_n 0, 1) := by decide +kernel
theorem dX5_turn_99 : decode cX5_turn 99 = .ok (.iconst 1, 1) := by decide +kernel
theorem dX5_turn_100 : decode cX5_turn 100 = .ok (.iload_n 3, 1) := by decide +kernel
theorem dX5_turn_101 : decode cX5_turn 101 = .ok (.iload 4, 2) := by decide +kernel
theorem dX5_turn_103 : decode cX5_turn 103 = .ok (.invokevirtual 86, 3) := by decide +kernel
theorem dX5_turn_106 : decode cX5_turn 106 = .ok (.aload_n 0, 1) := by decide +kernel
theorem dX5_turn_107 : decode cX5_turn 107 = .ok (.bipush 15, 2) := by decide +kernel
theorem dX5_turn_109 : decode cX5_turn 109 = .ok (.aload_n 0, 1) := by decide +kernel
theorem dX5_turn_110 : decode cX5_turn 110 = .ok (.getfield 59, 3) := by decide +kernel
theorem dX5_turn_113 : decode cX5_turn 113 = .ok (.iconst 1, 1) := by decide +kernel
theorem dX5_turn_114 : decode cX5_turn 114 = .ok (.isub, 1) := by decide +kernel
theorem dX5_turn_115 : decode cX5_turn 115 = .ok (.imul, 1) := by decide +kernel
theorem dX5_turn_116 : decode cX5_turn 116 = .ok (.iconst 3, 1) := by decide +kernel
theorem dX5_turn_117 : decode cX5_turn 117 = .ok (.iadd, 1) := by decide +kernel
theorem dX5_turn_118 : decode cX5_turn 118 = .ok (.iload_n 3, 1) := by decide +kernel
theorem dX5_turn_119 : decode cX5_turn 119 = .ok (.iload 4, 2) := by decide +kernel
theorem dX5_turn_121 : decode cX5_turn 121 = .ok (.invokevirtual 90, 3) := by decide +kernel
theorem dX5_turn_124 : decode cX5_turn 124 = .ok (.aload_n 0, 1) := by decide +kernel
theorem dX5_turn_125 : decode cX5_turn 125 = .ok (.iload_n 3, 1) := by decide +kernel
theorem dX5_turn_126 : decode cX5_turn 126 = .ok (.iload_n 1, 1) := by decide +kernel
theorem dX5_turn_127 : decode cX5_turn 127 = .ok (.iload 6, 2) := by decide +kernel
theorem dX5_turn_129 : decode cX5_turn 129 = .ok (.iload 5, 2) := by decide +kernel
theorem dX5_turn_131 : decode cX5_turn 131 = .ok (.invokevirtual 82, 3) := by decide +kernel
theorem dX5_turn_134 : decode cX5_turn 134 = .ok (.aload_n 0, 1) := by decide +kernel
theorem dX5_turn_135 : decode cX5_turn 135 = .ok (.iload 4, 2) := by decide +kernel
theorem dX5_turn_137 : decode cX5_turn 137 = .ok (.iload 6, 2) := by decide +kernel
theorem dX5_turn_139 : decode cX5_turn 139 = .ok (.iload_n 2, 1) := by decide +kernel
theorem dX5_turn_140 : decode cX5_turn 140 = .ok (.iload 5, 2) := by decide +kernel
theorem dX5_turn_142 : decode cX5_turn 142 = .ok (.invokevirtual 82, 3) := by decide +kernel
theorem dX5_turn_145 : decode cX5_turn 145 = .ok (.aload_n 0, 1) := by decide +kernel
theorem dX5_turn_146 : decode cX5_turn 146 = .ok (.bipush 15, 2) := by decide +kernel
theorem dX5_turn_148 : decode cX5_turn 148 = .ok (.aload_n 0, 1) := by decide +kernel
theorem dX5_turn_149 : decode cX5_turn 149 = .ok (.getfield 59, 3) := by decide +kernel
theorem dX5_turn_152 : decode cX5_turn 152 = .ok (.iconst 1, 1) := by decide +kernel
theorem dX5_turn_153 : decode cX5_turn 153 = .ok (.isub, 1) := by decide +kernel
theorem dX5_turn_154 : decode cX5_turn 154 = .ok (.imul, 1) := by decide +kernel
theorem dX5_turn_155 : decode cX5_turn 155 = .ok (.bipush 9, 2) := by decide +kernel
theorem dX5_turn_157 : decode cX5_turn 157 = .ok (.iadd, 1) := by decide +kernel
theorem dX5_turn_158 : decode cX5_turn 158 = .ok (.iload_n 3, 1) := by decide +kernel
theorem dX5_turn_159 : decode cX5_turn 159 = .ok (.iload 4, 2) := by decide +kernel
theorem dX5_turn_161 : decode cX5_turn 161 = .ok (.invokevirtual 90, 3) := by decide +kernel
theorem dX5_turn_164 : decode cX5_turn 164 = .ok (.iconst 1, 1) := by decide +kernel
theorem dX5_turn_165 : decode cX5_turn 165 = .ok (.ireturn, 1) := by decide +kernel
theorem dX5_tell_0 : decode cX5_tell 0 = .ok (.aload_n 0, 1) := by decide +kernel
theorem dX5_tell_1 : decode cX5_tell 1 = .ok (.iload_n 1, 1) := by decide +kernel
theorem dX5_tell_2 : decode cX5_tell 2 = .ok (.invokevirtual 70, 3) := by decide +kernel
theorem dX5_tell_5 : decode cX5_tell 5 = .ok (.ifCond .ne 5, 3) := by decide +kernel
theorem dX5_tell_8 : decode cX5_tell 8 = .ok (.iconst (-1), 1) := by decide +kernel
theorem dX5_tell_9 : decode cX5_tell 9 = .ok (.ireturn, 1) := by decide +kernel
theorem dX5_tell_10 : decode cX5_tell 10 = .ok (.iload_n 2, 1) := by decide +kernel
theorem dX5_tell_11 : decode cX5_tell 11 = .ok (.iconst (-1), 1) := by decide +kernel
theorem dX5_tell_12 : decode cX5_tell 12 = .ok (.sipush 4000, 3) := by decide +kernel
theorem dX5_tell_15 : decode cX5_tell 15 = .ok (.invokestatic 66, 3) := by decide +kernel
theorem dX5_tell_18 : decode cX5_tell 18 = .ok (.ifCond .ne 6, 3) := by decide +kernel
theorem dX5_tell_21 : decode cX5_tell 21 = .ok (.bipush (-2), 2) := by decide +kernel
theorem dX5_tell_23 : decode cX5_tell 23 = .ok (.ireturn, 1) := by decide +kernel
theorem dX5_tell_24 : decode cX5_tell 24 = .ok (.aload_n 0, 1) := by decide +kernel
theorem dX5_tell_25 : decode cX5_tell 25 = .ok (.getfield 23, 3) := by decide +kernel
theorem dX5_tell_28 : decode cX5_tell 28 = .ok (.iload_n 1, 1) := by decide +kernel
theorem dX5_tell_29 : decode cX5_tell 29 = .ok (.iaload, 1) := by decide +kernel
theorem dX5_tell_30 : decode cX5_tell 30 = .ok (.istore_n 3, 1) := by decide +kernel
theorem dX5_tell_31 : decode cX5_tell 31 = .ok (.aload_n 0, 1) := by decide +kernel
theorem dX5_tell_32 : decode cX5_tell 32 = .ok (.iconst 2, 1) := by decide +kernel
theorem dX5_tell_33 : decode cX5_tell 33 = .ok (.iload_n 1, 1) := by decide +kernel
theorem dX5_tell_34 : decode cX5_tell 34 = .ok (.iload_n 1, 1) := by decide +kernel
theorem dX5_tell_35 : decode cX5_tell 35 = .ok (.invokevirtual 86, 3) := by decide +kernel
theorem dX5_tell_38 : decode cX5_tell 38 = .ok (.aload_n 0, 1) := by decide +kernel
theorem dX5_tell_39 : decode cX5_tell 39 = .ok (.getfield 29, 3) := by decide +kernel
theorem dX5_tell_42 : decode cX5_tell 42 = .ok (.bipush 15, 2) := by decide +kernel
theorem dX5_tell_44 : decode cX5_tell 44 = .ok (.aload_n 0, 1) := by decide +kernel
theorem dX5_tell_45 : decode cX5_tell 45 = .ok (.getfield 59, 3) := by decide +kernel
theorem dX5_tell_48 : decode cX5_tell 48 = .ok (.iconst 1, 1) := by decide +kernel
theorem dX5_tell_49 : decode cX5_tell 49 = .ok (.isub, 1) := by decide +kernel
theorem dX5_tell_50 : decode cX5_tell 50 = .ok (.imul, 1) := by decide +kernel
theorem dX5_tell_51 : decode cX5_tell 51 = .ok (.iconst 3, 1) := by decide +kernel
theorem dX5_tell_52 : decode cX5_tell 52 = .ok (.iadd, 1) := by decide +kernel
theorem dX5_tell_53 : decode cX5_tell 53 = .ok (.iload_n 3, 1) := by decide +kernel
theorem dX5_tell_54 : decode cX5_tell 54 = .ok (.iastore, 1) := by decide +kernel
theorem dX5_tell_55 : decode cX5_tell 55 = .ok (.aload_n 0, 1) := by decide +kernel
theorem dX5_tell_56 : decode cX5_tell 56 = .ok (.getfield 23, 3) := by decide +kernel
theorem dX5_tell_59 : decode cX5_tell 59 = .ok (.iload_n 1, 1) := by decide +kernel
theorem dX5_tell_60 : decode cX5_tell 60 = .ok (.iload_n 2, 1) := by decide +kernel
theorem dX5_tell_61 : decode cX5_tell 61 = .ok (.iconst (-1), 1) := by decide +kernel
theorem dX5_tell_62 : decode cX5_tell 62 = .ok (.if_icmp .ne 8, 3) := by decide +kernel
theorem dX5_tell_65 : decode cX5_tell 65 = .ok (.bipush (-6), 2) := by decide +kernel
theorem dX5_tell_67 : decode cX5_tell 67 = .ok (.goto 4, 3) := by decide +kernel
theorem dX5_tell_70 : decode cX5_tell 70 = .ok (.iload_n 2, 1) := by decide +kernel
theorem dX5_tell_71 : decode cX5_tell 71 = .ok (.iastore, 1) := by decide +kernel
theorem dX5_tell_72 : decode cX5_tell 72 = .ok (.aload_n 0, 1) := by decide +kernel
theorem dX5_tell_73 : decode cX5_tell 73 = .ok (.getfield 29, 3) := by decide +kernel
theorem dX5_tell_76 : decode cX5_tell 76 = .ok (.bipush 15, 2) := by decide +kernel
theorem dX5_tell_78 : decode cX5_tell 78 = .ok (.aload_n 0, 1) := by decide +kernel
theorem dX5_tell_79 : decode cX5_tell 79 = .ok (.getfield 59, 3) := by decide +kernel
theorem dX5_tell_82 : decode cX5_tell 82 = .ok (.iconst 1, 1) := by decide +kernel
theorem dX5_tell_83 : decode cX5_tell 83 = .ok (.isub, 1) := by decide +kernel
theorem dX5_tell_84 : decode cX5_tell 84 = .ok (.imul, 1) := by decide +kernel
theorem dX5_tell_85 : decode cX5_tell 85 = .ok (.bipush 9, 2) := by decide +kernel
theorem dX5_tell_87 : decode cX5_tell 87 = .ok (.iadd, 1) := by decide +kernel
theorem dX5_tell_88 : decode cX5_tell 88 = .ok (.aload_n 0, 1) := by decide +kernel
theorem dX5_tell_89 : decode cX5_tell 89 = .ok (.getfield 23, 3) := by decide +kernel
theorem dX5_tell_92 : decode cX5_tell 92 = .ok (.iload_n 1, 1) := by decide +kernel
theorem dX5_tell_93 : decode cX5_tell 93 = .ok (.iaload, 1) := by decide +kernel
theorem dX5_tell_94 : decode cX5_tell 94 = .ok (.iastore, 1) := by decide +kernel
theorem dX5_tell_95 : decode cX5_tell 95 = .ok (.iload_n 3, 1) := by decide +kernel
theorem dX5_tell_96 : decode cX5_tell 96 = .ok (.ireturn, 1) := by decide +kernel
theorem dX5_undo_0 : decode cX5_undo 0 = .ok (.aload_n 0, 1) := by decide +kernel
theorem dX5_undo_1 : decode cX5_undo 1 = .ok (.getfield 59, 3) := by decide +kernel
theorem dX5_undo_4 : decode cX5_undo 4 = .ok (.ifCond .ne 6, 3) := by decide +kernel
theorem dX5_undo_7 : decode cX5_undo 7 = .ok (.bipush (-3), 2) := by decide +kernel
theorem dX5_undo_9 : decode cX5_undo 9 = .ok (.ireturn, 1) := by decide +kernel
theorem dX5_undo_10 : decode cX5_undo 10 = .ok (.aload_n 0, 1) := by decide +kernel
theorem dX5_undo_11 : decode cX5_undo 11 = .ok (.dup, 1) := by decide +kernel
theorem dX5_undo_12 : decode cX5_undo 12 = .ok (.getfield 59, 3) := by decide +kernel
theorem dX5_undo_15 : decode cX5_undo 15 = .ok (.iconst 1, 1) := by decide +kernel
theorem dX5_undo_16 : decode cX5_undo 16 = .ok (.isub, 1) := by decide +kernel
theorem dX5_undo_17 : decode cX5_undo 17 = .ok (.putfield 59, 3) := by decide +kernel
theorem dX5_undo_20 : decode cX5_undo 20 = .ok (.bipush 15, 2) := by decide +kernel
theorem dX5_undo_22 : decode cX5_undo 22 = .ok (.aload_n 0, 1) := by decide +kernel
theorem dX5_undo_23 : decode cX5_undo 23 = .ok (.getfield 59, 3) := by decide +kernel
theorem dX5_undo_26 : decode cX5_undo 26 = .ok (.imul, 1) := by decide +kernel
theorem dX5_undo_27 : decode cX5_undo 27 = .ok (.istore_n 1, 1) := by decide +kernel
theorem dX5_undo_28 : decode cX5_undo 28 = .ok (.aload_n 0, 1) := by decide +kernel
theorem dX5_undo_29 : decode cX5_undo 29 = .ok (.getfield 29, 3) := by decide +kernel
theorem dX5_undo_32 : decode cX5_undo 32 = .ok (.iload_n 1, 1) := by decide +kernel
theorem dX5_undo_33 : decode cX5_undo 33 = .ok (.iaload, 1) := by decide +kernel
theorem dX5_undo_34 : decode cX5_undo 34 = .ok (.ifCond .ne 16, 3) := by decide +kernel
theorem dX5_undo_37 : decode cX5_undo 37 = .ok (.aload_n 0, 1) := by decide +kernel
theorem dX5_undo_38 : decode cX5_undo 38 = .ok (.dup, 1) := by decide +kernel
theorem dX5_undo_39 : decode cX5_undo 39 = .ok (.getfield 53, 3) := by decide +kernel
theorem dX5_undo_42 : decode cX5_undo 42 = .ok (.iconst 1, 1) := by decide +kernel
theorem dX5_undo_43 : decode cX5_undo 43 = .ok (.isub, 1) := by decide +kernel
theorem dX5_undo_44 : decode cX5_undo 44 = .ok (.putfield 53, 3) := by decide +kernel
theorem dX5_undo_47 : decode cX5_undo 47 = .ok (.goto 60, 3) := by decide +kernel
theorem dX5_undo_50 : decode cX5_undo 50 = .ok (.aload_n 0, 1) := by decide +kernel
theorem dX5_undo_51 : decode cX5_undo 51 = .ok (.getfield 29, 3) := by decide +kernel
theorem dX5_undo_54 : decode cX5_undo 54 = .ok (.iload_n 1, 1) := by decide +kernel
theorem dX5_undo_55 : decode cX5_undo 55 = .ok (.iaload, 1) := by decide +kernel
theorem dX5_undo_56 : decode cX5_undo 56 = .ok (.iconst 1, 1) := by decide +kernel
theorem dX5_undo_57 : decode cX5_undo 57 = .ok (.if_icmp .ne 29, 3) := by decide +kernel
theorem dX5_undo_60 : decode cX5_undo 60 = .ok (.aload_n 0, 1) := by decide +kernel
theorem dX5_undo_61 : decode cX5_undo 61 = .ok (.iload_n 1, 1) := by decide +kernel
theorem dX5_undo_62 : decode cX5_undo 62 = .ok (.iconst 3, 1) := by decide +kernel
theorem dX5_undo_63 : decode cX5_undo 63 = .ok (.iadd, 1) := by decide +kernel
theorem dX5_undo_64 : decode cX5_undo 64 = .ok (.aload_n 0, 1) := by decide +kernel
theorem dX5_undo_65 : decode cX5_undo 65 = .ok (.getfield 29, 3) := by decide +kernel
theorem dX5_undo_68 : decode cX5_undo 68 = .ok (.iload_n 1, 1) := by decide +kernel
theorem dX5_undo_69 : decode cX5_undo 69 = .ok (.iconst 1, 1) := by decide +kernel
theorem dX5_undo_70 : decode cX5_undo 70 = .ok (.iadd, 1) := by decide +kernel
theorem dX5_undo_71 : decode cX5_undo 71 = .ok (.iaload, 1) := by decide +kernel
theorem dX5_undo_72 : decode cX5_undo 72 = .ok (.aload_n 0, 1) := by decide +kernel
theorem dX5_undo_73 : decode cX5_undo 73 = .ok (.getfield 29, 3) := by decide +kernel
theorem dX5_undo_76 : decode cX5_undo 76 = .ok (.iload_n 1, 1) := by decide +kernel
theorem dX5_undo_77 : decode cX5_undo 77 = .ok (.iconst 2, 1) := by decide +kernel
theorem dX5_undo_78 : decode cX5_undo 78 = .ok (.iadd, 1) := by decide +kernel
theorem dX5_undo_79 : decode cX5_undo 79 = .ok (.iaload, 1) := by decide +kernel
theorem dX5_undo_80 : decode cX5_undo 80 = .ok (.invokevirtual 100, 3) := by decide +kernel
theorem dX5_undo_83 : decode cX5_undo 83 = .ok (.goto 24, 3) := by decide +kernel
theorem dX5_undo_86 : decode cX5_undo 86 = .ok (.aload_n 0, 1) := by decide +kernel
theorem dX5_undo_87 : decode cX5_undo 87 = .ok (.getfield 23, 3) := by decide +kernel
theorem dX5_undo_90 : decode cX5_undo 90 = .ok (.aload_n 0, 1) := by decide +kernel
theorem dX5_undo_91 : decode cX5_undo 91 = .ok (.getfield 29, 3) := by decide +kernel
theorem dX5_undo_94 : decode cX5_undo 94 = .ok (.iload_n 1, 1) := by decide +kernel
theorem dX5_undo_95 : decode cX5_undo 95 = .ok (.iconst 1, 1) := by decide +kernel
theorem dX5_undo_96 : decode cX5_undo 96 = .ok (.iadd, 1) := by decide +kernel
theorem dX5_undo_97 : decode cX5_undo 97 = .ok (.iaload, 1) := by decide +kernel
theorem dX5_undo_98 : decode cX5_undo 98 = .ok (.aload_n 0, 1) := by decide +kernel
theorem dX5_undo_99 : decode cX5_undo 99 = .ok (.getfield 29, 3) := by decide +kernel
theorem dX5_undo_102 : decode cX5_undo 102 = .ok (.iload_n 1, 1) := by decide +kernel
theorem dX5_undo_103 : decode cX5_undo 103 = .ok (.iconst 3, 1) := by decide +kernel
theorem dX5_undo_104 : decode cX5_undo 104 = .ok (.iadd, 1) := by decide +kernel
theorem dX5_undo_105 : decode cX5_undo 105 = .ok (.iaload, 1) := by decide +kernel
theorem dX5_undo_106 : decode cX5_undo 106 = .ok (.iastore, 1) := by decide +kernel
theorem dX5_undo_107 : decode cX5_undo 107 = .ok (.aload_n 0, 1) := by decide +kernel
theorem dX5_undo_108 : decode cX5_undo 108 = .ok (.iconst 0, 1) := by decide +kernel
theorem dX5_undo_109 : decode cX5_undo 109 = .ok (.putfield 62, 3) := by decide +kernel
theorem dX5_undo_112 : decode cX5_undo 112 = .ok (.aload_n 0, 1) := by decide +kernel
theorem dX5_undo_113 : decode cX5_undo 113 = .ok (.getfield 59, 3) := by decide +kernel
theorem dX5_undo_116 : decode cX5_undo 116 = .ok (.ireturn, 1) := by decide +kernel
theorem dX5_redo_0 : decode cX5_redo 0 = .ok (.aload_n 0, 1) := by decide +kernel
theorem dX5_redo_1 : decode cX5_redo 1 = .ok (.getfield 59, 3) := by decide +kernel
theorem dX5_redo_4 : decode cX5_redo 4 = .ok (.aload_n 0, 1) := by decide +kernel
theorem dX5_redo_5 : decode cX5_redo 5 = .ok (.getfield 56, 3) := by decide +kernel
theorem dX5_redo_8 : decode cX5_redo 8 = .ok (.if_icmp .ne 6, 3) := by decide +kernel
theorem dX5_redo_11 : decode cX5_redo 11 = .ok (.bipush (-3), 2) := by decide +kernel
theorem dX5_redo_13 : decode cX5_redo 13 = .ok (.ireturn, 1) := by decide +kernel
theorem dX5_redo_14 : decode cX5_redo 14 = .ok (.bipush 15, 2) := by decide +kernel
theorem dX5_redo_16 : decode cX5_redo 16 = .ok (.aload_n 0, 1) := by decide +kernel
theorem dX5_redo_17 : decode cX5_redo 17 = .ok (.getfield 59, 3) := by decide +kernel
theorem dX5_redo_20 : decode cX5_redo 20 = .ok (.imul, 1) := by decide +kernel
theorem dX5_redo_21 : decode cX5_redo 21 = .ok (.istore_n 1, 1) := by decide +kernel
theorem dX5_redo_22 : decode cX5_redo 22 = .ok (.aload_n 0, 1) := by decide +kernel
theorem dX5_redo_23 : decode cX5_redo 23 = .ok (.getfield 29, 3) := by decide +kernel
theorem dX5_redo_26 : decode cX5_redo 26 = .ok (.iload_n 1, 1) := by decide +kernel
theorem dX5_redo_27 : decode cX5_redo 27 = .ok (.iaload, 1) := by decide +kernel
theorem dX5_redo_28 : decode cX5_redo 28 = .ok (.iconst 2, 1) := by decide +kernel
theorem dX5_redo_29 : decode cX5_redo 29 = .ok (.if_icmp .ne 28, 3) := by decide +kernel
theorem dX5_redo_32 : decode cX5_redo 32 = .ok (.aload_n 0, 1) := by decide +kernel
theorem dX5_redo_33 : decode cX5_redo 33 = .ok (.getfield 23, 3) := by decide +kernel
theorem dX5_redo_36 : decode cX5_redo 36 = .ok (.aload_n 0, 1) := by decide +kernel
theorem dX5_redo_37 : decode cX5_redo 37 = .ok (.getfield 29, 3) := by decide +kernel
theorem dX5_redo_40 : decode cX5_redo 40 = .ok (.iload_n 1, 1) := by decide +kernel
theorem dX5_redo_41 : decode cX5_redo 41 = .ok (.iconst 1, 1) := by decide +kernel
theorem dX5_redo_42 : decode cX5_redo 42 = .ok (.iadd, 1) := by decide +kernel
theorem dX5_redo_43 : decode cX5_redo 43 = .ok (.iaload, 1) := by decide +kernel
theorem dX5_redo_44 : decode cX5_redo 44 = .ok (.aload_n 0, 1) := by decide +kernel
theorem dX5_redo_45 : decode cX5_redo 45 = .ok (.getfield 29, 3) := by decide +kernel
theorem dX5_redo_48 : decode cX5_redo 48 = .ok (.iload_n 1, 1) := by decide +kernel
theorem dX5_redo_49 : decode cX5_redo 49 = .ok (.bipush 9, 2) := by decide +kernel
theorem dX5_redo_51 : decode cX5_redo 51 = .ok (.iadd, 1) := by decide +kernel
theorem dX5_redo_52 : decode cX5_redo 52 = .ok (.iaload, 1) := by decide +kernel
theorem dX5_redo_53 : decode cX5_redo 53 = .ok (.iastore, 1) := by decide +kernel
theorem dX5_redo_54 : decode cX5_redo 54 = .ok (.goto 50, 3) := by decide +kernel
theorem dX5_redo_57 : decode cX5_redo 57 = .ok (.aload_n 0, 1) := by decide +kernel
theorem dX5_redo_58 : decode cX5_redo 58 = .ok (.iload_n 1, 1) := by decide +kernel
theorem dX5_redo_59 : decode cX5_redo 59 = .ok (.bipush 9, 2) := by decide +kernel
theorem dX5_redo_61 : decode cX5_redo 61 = .ok (.iadd, 1) := by decide +kernel
theorem dX5_redo_62 : decode cX5_redo 62 = .ok (.aload_n 0, 1) := by decide +kernel
theorem dX5_redo_63 : decode cX5_redo 63 = .ok (.getfield 29, 3) := by decide +kernel
theorem dX5_redo_66 : decode cX5_redo 66 = .ok (.iload_n 1, 1) := by decide +kernel
theorem dX5_redo_67 : decode cX5_redo 67 = .ok (.iconst 1, 1) := by decide +kernel
theorem dX5_redo_68 : decode cX5_redo 68 = .ok (.iadd, 1) := by decide +kernel
theorem dX5_redo_69 : decode cX5_redo 69 = .ok (.iaload, 1) := by decide +kernel
theorem dX5_redo_70 : decode cX5_redo 70 = .ok (.aload_n 0, 1) := by decide +kernel
theorem dX5_redo_71 : decode cX5_redo 71 = .ok (.getfield 29, 3) := by decide +kernel
theorem dX5_redo_74 : decode cX5_redo 74 = .ok (.iload_n 1, 1) := by decide +kernel
theorem dX5_redo_75 : decode cX5_redo 75 = .ok (.iconst 2, 1) := by decide +kernel
theorem dX5_redo_76 : decode cX5_redo 76 = .ok (.iadd, 1) := by decide +kernel
theorem dX5_redo_77 : decode cX5_redo 77 = .ok (.iaload, 1) := by decide +kernel
theorem dX5_redo_78 : decode cX5_redo 78 = .ok (.invokevirtual 100, 3) := by decide +kernel
theorem dX5_redo_81 : decode cX5_redo 81 = .ok (.aload_n 0, 1) := by decide +kernel
theorem dX5_redo_82 : decode cX5_redo 82 = .ok (.dup, 1) := by decide +kernel
theorem dX5_redo_83 : decode cX5_redo 83 = .ok (.getfield 53, 3) := by decide +kernel
theorem dX5_redo_86 : decode cX5_redo 86 = .ok (.aload_n 0, 1) := by decide +kernel
theorem dX5_redo_87 : decode cX5_redo 87 = .ok (.getfield 29, 3) := by decide +kernel
theorem dX5_redo_90 : decode cX5_redo 90 = .ok (.iload_n 1, 1) := by decide +kernel
theorem dX5_redo_91 : decode cX5_redo 91 = .ok (.iaload, 1) := by decide +kernel
theorem dX5_redo_92 : decode cX5_redo 92 = .ok (.ifCond .ne 7, 3) := by decide +kernel
theorem dX5_redo_95 : decode cX5_redo 95 = .ok (.iconst 1, 1) := by decide +kernel
theorem dX5_redo_96 : decode cX5_redo 96 = .ok (.goto 4, 3) := by decide +kernel
theorem dX5_redo_99 : decode cX5_redo 99 = .ok (.iconst 0, 1) := by decide +kernel
theorem dX5_redo_100 : decode cX5_redo 100 = .ok (.iadd, 1) := by decide +kernel
theorem dX5_redo_101 : decode cX5_redo 101 = .ok (.putfield 53, 3) := by decide +kernel
theorem dX5_redo_104 : decode cX5_redo 104 = .ok (.aload_n 0, 1) := by decide +kernel
theorem dX5_redo_105 : decode cX5_redo 105 = .ok (.dup, 1) := by decide +kernel
theorem dX5_redo_106 : decode cX5_redo 106 = .ok (.getfield 59, 3) := by decide +kernel
theorem dX5_redo_109 : decode cX5_redo 109 = .ok (.iconst 1, 1) := by decide +kernel
theorem dX5_redo_110 : decode cX5_redo 110 = .ok (.iadd, 1) := by decide +kernel
theorem dX5_redo_111 : decode cX5_redo 111 = .ok (.putfield 59, 3) := by decide +kernel
theorem dX5_redo_114 : decode cX5_redo 114 = .ok (.aload_n 0, 1) := by decide +kernel
theorem dX5_redo_115 : decode cX5_redo 115 = .ok (.iconst 0, 1) := by decide +kernel
theorem dX5_redo_116 : decode cX5_redo 116 = .ok (.putfield 62, 3) := by decide +kernel
theorem dX5_redo_119 : decode cX5_redo 119 = .ok (.aload_n 0, 1) := by decide +kernel
theorem dX5_redo_120 : decode cX5_redo 120 = .ok (.getfield 56, 3) := by decide +kernel
theorem dX5_redo_123 : decode cX5_redo 123 = .ok (.aload_n 0, 1) := by decide +kernel
theorem dX5_redo_124 : decode cX5_redo 124 = .ok (.getfield 59, 3) := by decide +kernel
theorem dX5_redo_127 : decode cX5_redo 127 = .ok (.isub, 1) := by decide +kernel
theorem dX5_redo_128 : decode cX5_redo 128 = .ok (.ireturn, 1) := by decide +kernel
theorem dX5_cornersAt_0 : decode cX5_cornersAt 0 = .ok (.iconst 0, 1) := by decide +kernel
theorem dX5_cornersAt_1 : decode cX5_cornersAt 1 = .ok (.istore_n 2, 1) := by decide +kernel
theorem dX5_cornersAt_2 : decode cX5_cornersAt 2 = .ok (.iconst 0, 1) := by decide +kernel
theorem dX5_cornersAt_3 : decode cX5_cornersAt 3 = .ok (.istore_n 3, 1) := by decide +kernel
theorem dX5_cornersAt_4 : decode cX5_cornersAt 4 = .ok (.iload_n 3, 1) := by decide +kernel
theorem dX5_cornersAt_5 : decode cX5_cornersAt 5 = .ok (.iconst 3, 1) := by decide +kernel
theorem dX5_cornersAt_6 : decode cX5_cornersAt 6 = .ok (.aload_n 0, 1) := by decide +kernel
theorem dX5_cornersAt_7 : decode cX5_cornersAt 7 = .ok (.getfield 53, 3) := by decide +kernel
theorem dX5_cornersAt_10 : decode cX5_cornersAt 10 = .ok (.imul, 1) := by decide +kernel
theorem dX5_cornersAt_11 : decode cX5_cornersAt 11 = .ok (.if_icmp .ge 27, 3) := by decide +kernel
theorem dX5_cornersAt_14 : decode cX5_cornersAt 14 = .ok (.iload_n 2, 1) := by decide +kernel
theorem dX5_cornersAt_15 : decode cX5_cornersAt 15 = .ok (.aload_n 0, 1) := by decide +kernel
theorem dX5_cornersAt_16 : decode cX5_cornersAt 16 = .ok (.getfield 13, 3) := by decide +kernel
theorem dX5_cornersAt_19 : decode cX5_cornersAt 19 = .ok (.iload_n 3, 1) := by decide +kernel
theorem dX5_cornersAt_20 : decode cX5_cornersAt 20 = .ok (.iaload, 1) := by decide +kernel
theorem dX5_cornersAt_21 : decode cX5_cornersAt 21 = .ok (.iload_n 1, 1) := by decide +kernel
theorem dX5_cornersAt_22 : decode cX5_cornersAt 22 = .ok (.if_icmp .ne 7, 3) := by decide +kernel
theorem dX5_cornersAt_25 : decode cX5_cornersAt 25 = .ok (.iconst 1, 1) := by decide +kernel
theorem dX5_cornersAt_26 : decode cX5_cornersAt 26 = .ok (.goto 4, 3) := by decide +kernel
theorem dX5_cornersAt_29 : decode cX5_cornersAt 29 = .ok (.iconst 0, 1) := by decide +kernel
theorem dX5_cornersAt_30 : decode cX5_cornersAt 30 = .ok (.iadd, 1) := by decide +kernel
theorem dX5_cornersAt_31 : decode cX5_cornersAt 31 = .ok (.istore_n 2, 1) := by decide +kernel
theorem dX5_cornersAt_32 : decode cX5_cornersAt 32 = .ok (.iinc 3 1, 3) := by decide +kernel
theorem dX5_cornersAt_35 : decode cX5_cornersAt 35 = .ok (.goto (-31), 3) := by decide +kernel
theorem dX5_cornersAt_38 : decode cX5_cornersAt 38 = .ok (.iload_n 2, 1) := by decide +kernel
theorem dX5_cornersAt_39 : decode cX5_cornersAt 39 = .ok (.ireturn, 1) := by decide +kernel
theorem dX5_sidesAt_0 : decode cX5_sidesAt 0 = .ok (.iconst 0, 1) := by decide +kernel
theorem dX5_sidesAt_1 : decode cX5_sidesAt 1 = .ok (.istore 4, 2) := by decide +kernel
theorem dX5_sidesAt_3 : decode cX5_sidesAt 3 = .ok (.iconst 0, 1) := by decide +kernel
theorem dX5_sidesAt_4 : decode cX5_sidesAt 4 = .ok (.istore 5, 2) := by decide +kernel
theorem dX5_sidesAt_6 : decode cX5_sidesAt 6 = .ok (.iload 5, 2) := by decide +kernel
theorem dX5_sidesAt_8 : decode cX5_sidesAt 8 = .ok (.aload_n 0, 1) := by decide +kernel
theorem dX5_sidesAt_9 : decode cX5_sidesAt 9 = .ok (.getfield 7, 3) := by decide +kernel
theorem dX5_sidesAt_12 : decode cX5_sidesAt 12 = .ok (.if_icmp .ge 40, 3) := by decide +kernel
theorem dX5_sidesAt_15 : decode cX5_sidesAt 15 = .ok (.iload 4, 2) := by decide +kernel
theorem dX5_sidesAt_17 : decode cX5_sidesAt 17 = .ok (.iload 5, 2) := by decide +kernel
theorem dX5_sidesAt_19 : decode cX5_sidesAt 19 = .ok (.iload_n 1, 1) := by decide +kernel
theorem dX5_sidesAt_20 : decode cX5_sidesAt 20 = .ok (.if_icmp .eq 22, 3) := by decide +kernel
theorem dX5_sidesAt_23 : decode cX5_sidesAt 23 = .ok (.aload_n 0, 1) := by decide +kernel
theorem dX5_sidesAt_24 : decode cX5_sidesAt 24 = .ok (.iload_n 1, 1) := by decide +kernel
theorem dX5_sidesAt_25 : decode cX5_sidesAt 25 = .ok (.iload 5, 2) := by decide +kernel
theorem dX5_sidesAt_27 : decode cX5_sidesAt 27 = .ok (.invokevirtual 93, 3) := by decide +kernel
theorem dX5_sidesAt_30 : decode cX5_sidesAt 30 = .ok (.iload_n 2, 1) := by decide +kernel
theorem dX5_sidesAt_31 : decode cX5_sidesAt 31 = .ok (.iload_n 3, 1) := by decide +kernel
theorem dX5_sidesAt_32 : decode cX5_sidesAt 32 = .ok (.invokestatic 66, 3) := by decide +kernel
theorem dX5_sidesAt_35 : decode cX5_sidesAt 35 = .ok (.ifCond .eq 7, 3) := by decide +kernel
theorem dX5_sidesAt_38 : decode cX5_sidesAt 38 = .ok (.iconst 1, 1) := by decide +kernel
theorem dX5_sidesAt_39 : decode cX5_sidesAt 39 = .ok (.goto 4, 3) := by decide +kernel
theorem dX5_sidesAt_42 : decode cX5_sidesAt 42 = .ok (.iconst 0, 1) := by decide +kernel
theorem dX5_sidesAt_43 : decode cX5_sidesAt 43 = .ok (.iadd, 1) := by decide +kernel
theorem dX5_sidesAt_44 : decode cX5_sidesAt 44 = .ok (.istore 4, 2) := by decide +kernel
theorem dX5_sidesAt_46 : decode cX5_sidesAt 46 = .ok (.iinc 5 1, 3) := by decide +kernel
theorem dX5_sidesAt_49 : decode cX5_sidesAt 49 = .ok (.goto (-43), 3) := by decide +kernel
theorem dX5_sidesAt_52 : decode cX5_sidesAt 52 = .ok (.iload 4, 2) := by decide +kernel
theorem dX5_sidesAt_54 : decode cX5_sidesAt 54 = .ok (.ireturn, 1) := by decide +kernel
theorem dX5_hasPost_0 : decode cX5_hasPost 0 = .ok (.aload_n 0, 1) := by decide +kernel
theorem dX5_hasPost_1 : decode cX5_hasPost 1 = .ok (.getfield 13, 3) := by decide +kernel
theorem dX5_hasPost_4 : decode cX5_hasPost 4 = .ok (.iconst 3, 1) := by decide +kernel
theorem dX5_hasPost_5 : decode cX5_hasPost 5 = .ok (.iload_n 1, 1) := by decide +kernel
theorem dX5_hasPost_6 : decode cX5_hasPost 6 = .ok (.imul, 1) := by decide +kernel
theorem dX5_hasPost_7 : decode cX5_hasPost 7 = .ok (.iaload, 1) := by decide +kernel
theorem dX5_hasPost_8 : decode cX5_hasPost 8 = .ok (.iload_n 2, 1) := by decide +kernel
theorem dX5_hasPost_9 : decode cX5_hasPost 9 = .ok (.if_icmp .eq 31, 3) := by decide +kernel
theorem dX5_hasPost_12 : decode cX5_hasPost 12 = .ok (.aload_n 0, 1) := by decide +kernel
theorem dX5_hasPost_13 : decode cX5_hasPost 13 = .ok (.getfield 13, 3) := by decide +kernel
theorem dX5_hasPost_16 : decode cX5_hasPost 16 = .ok (.iconst 3, 1) := by decide +kernel
theorem dX5_hasPost_17 : decode cX5_hasPost 17 = .ok (.iload_n 1, 1) := by decide +kernel
theorem dX5_hasPost_18 : decode cX5_hasPost 18 = .ok (.imul, 1) := by decide +kernel
theorem dX5_hasPost_19 : decode cX5_hasPost 19 = .ok (.iconst 1, 1) := by decide +kernel
theorem dX5_hasPost_20 : decode cX5_hasPost 20 = .ok (.iadd, 1) := by decide +kernel
theorem dX5_hasPost_21 : decode cX5_hasPost 21 = .ok (.iaload, 1) := by decide +kernel
theorem dX5_hasPost_22 : decode cX5_hasPost 22 = .ok (.iload_n 2, 1) := by decide +kernel
theorem dX5_hasPost_23 : decode cX5_hasPost 23 = .ok (.if_icmp .eq 17, 3) := by decide +kernel
theorem dX5_hasPost_26 : decode cX5_hasPost 26 = .ok (.aload_n 0, 1) := by decide +kernel
theorem dX5_hasPost_27 : decode cX5_hasPost 27 = .ok (.getfield 13, 3) := by decide +kernel
theorem dX5_hasPost_30 : decode cX5_hasPost 30 = .ok (.iconst 3, 1) := by decide +kernel
theorem dX5_hasPost_31 : decode cX5_hasPost 31 = .ok (.iload_n 1, 1) := by decide +kernel
theorem dX5_hasPost_32 : decode cX5_hasPost 32 = .ok (.imul, 1) := by decide +kernel
theorem dX5_hasPost_33 : decode cX5_hasPost 33 = .ok (.iconst 2, 1) := by decide +kernel
theorem dX5_hasPost_34 : decode cX5_hasPost 34 = .ok (.iadd, 1) := by decide +kernel
theorem dX5_hasPost_35 : decode cX5_hasPost 35 = .ok (.iaload, 1) := by decide +kernel
theorem dX5_hasPost_36 : decode cX5_hasPost 36 = .ok (.iload_n 2, 1) := by decide +kernel
theorem dX5_hasPost_37 : decode cX5_hasPost 37 = .ok (.if_icmp .ne 7, 3) := by decide +kernel
theorem dX5_hasPost_40 : decode cX5_hasPost 40 = .ok (.iconst 1, 1) := by decide +kernel
theorem dX5_hasPost_41 : decode cX5_hasPost 41 = .ok (.goto 4, 3) := by decide +kernel
theorem dX5_hasPost_44 : decode cX5_hasPost 44 = .ok (.iconst 0, 1) := by decide +kernel
theorem dX5_hasPost_45 : decode cX5_hasPost 45 = .ok (.ireturn, 1) := by decide +kernel
theorem dX5_hang_0 : decode cX5_hang 0 = .ok (.iconst 0, 1) := by decide +kernel
theorem dX5_hang_1 : decode cX5_hang 1 = .ok (.istore 4, 2) := by decide +kernel
theorem dX5_hang_3 : decode cX5_hang 3 = .ok (.iconst 0, 1) := by decide +kernel
theorem dX5_hang_4 : decode cX5_hang 4 = .ok (.istore 5, 2) := by decide +kernel
theorem dX5_hang_6 : decode cX5_hang 6 = .ok (.iload 5, 2) := by decide +kernel
theorem dX5_hang_8 : decode cX5_hang 8 = .ok (.iconst 3, 1) := by decide +kernel
theorem dX5_hang_9 : decode cX5_hang 9 = .ok (.if_icmp .ge 79, 3) := by decide +kernel
theorem dX5_hang_12 : decode cX5_hang 12 = .ok (.aload_n 0, 1) := by decide +kernel
theorem dX5_hang_13 : decode cX5_hang 13 = .ok (.getfield 13, 3) := by decide +kernel
theorem dX5_hang_16 : decode cX5_hang 16 = .ok (.iconst 3, 1) := by decide +kernel
theorem dX5_hang_17 : decode cX5_hang 17 = .ok (.iload_n 1, 1) := by decide +kernel
theorem dX5_hang_18 : decode cX5_hang 18 = .ok (.imul, 1) := by decide +kernel
theorem dX5_hang_19 : decode cX5_hang 19 = .ok (.iload 5, 2) := by decide +kernel
theorem dX5_hang_21 : decode cX5_hang 21 = .ok (.iadd, 1) := by decide +kernel
theorem dX5_hang_22 : decode cX5_hang 22 = .ok (.iaload, 1) := by decide +kernel
theorem dX5_hang_23 : decode cX5_hang 23 = .ok (.istore 6, 2) := by decide +kernel
theorem dX5_hang_25 : decode cX5_hang 25 = .ok (.aload_n 0, 1) := by decide +kernel
theorem dX5_hang_26 : decode cX5_hang 26 = .ok (.getfield 13, 3) := by decide +kernel
theorem dX5_hang_29 : decode cX5_hang 29 = .ok (.iconst 3, 1) := by decide +kernel
theorem dX5_hang_30 : decode cX5_hang 30 = .ok (.iload_n 1, 1) := by decide +kernel
theorem dX5_hang_31 : decode cX5_hang 31 = .ok (.imul, 1) := by decide +kernel
theorem dX5_hang_32 : decode cX5_hang 32 = .ok (.iload 5, 2) := by decide +kernel
theorem dX5_hang_34 : decode cX5_hang 34 = .ok (.iconst 1, 1) := by decide +kernel
theorem dX5_hang_35 : decode cX5_hang 35 = .ok (.iadd, 1) := by decide +kernel
theorem dX5_hang_36 : decode cX5_hang 36 = .ok (.iconst 3, 1) := by decide +kernel
theorem dX5_hang_37 : decode cX5_hang 37 = .ok (.irem, 1) := by decide +kernel
theorem dX5_hang_38 : decode cX5_hang 38 = .ok (.iadd, 1) := by decide +kernel
theorem dX5_hang_39 : decode cX5_hang 39 = .ok (.iaload, 1) := by decide +kernel
theorem dX5_hang_40 : decode cX5_hang 40 = .ok (.istore 7, 2) := by decide +kernel
theorem dX5_hang_42 : decode cX5_hang 42 = .ok (.iload 4, 2) := by decide +kernel
theorem dX5_hang_44 : decode cX5_hang 44 = .ok (.ifCond .ne 31, 3) := by decide +kernel
theorem dX5_hang_47 : decode cX5_hang 47 = .ok (.iload_n 3, 1) := by decide +kernel
theorem dX5_hang_48 : decode cX5_hang 48 = .ok (.ifCond .lt 15, 3) := by decide +kernel
theorem dX5_hang_51 : decode cX5_hang 51 = .ok (.iload 6, 2) := by decide +kernel
theorem dX5_hang_53 : decode cX5_hang 53 = .ok (.iload_n 3, 1) := by decide +kernel
theorem dX5_hang_54 : decode cX5_hang 54 = .ok (.if_icmp .eq 9, 3) := by decide +kernel
theorem dX5_hang_57 : decode cX5_hang 57 = .ok (.iload 7, 2) := by decide +kernel
theorem dX5_hang_59 : decode cX5_hang 59 = .ok (.iload_n 3, 1) := by decide +kernel
theorem dX5_hang_60 : decode cX5_hang 60 = .ok (.if_icmp .ne 19, 3) := by decide +kernel
theorem dX5_hang_63 : decode cX5_hang 63 = .ok (.aload_n 0, 1) := by decide +kernel
theorem dX5_hang_64 : decode cX5_hang 64 = .ok (.iload 7, 2) := by decide +kernel
theorem dX5_hang_66 : decode cX5_hang 66 = .ok (.iload 6, 2) := by decide +kernel
theorem dX5_hang_68 : decode cX5_hang 68 = .ok (.invokevirtual 74, 3) := by decide +kernel
theorem dX5_hang_71 : decode cX5_hang 71 = .ok (.iload_n 2, 1) := by decide +kernel
theorem dX5_hang_72 : decode cX5_hang 72 = .ok (.if_icmp .ne 7, 3) := by decide +kernel
theorem dX5_hang_75 : decode cX5_hang 75 = .ok (.iconst 1, 1) := by decide +kernel
theorem dX5_hang_76 : decode cX5_hang 76 = .ok (.goto 4, 3) := by decide +kernel
theorem dX5_hang_79 : decode cX5_hang 79 = .ok (.iconst 0, 1) := by decide +kernel
theorem dX5_hang_80 : decode cX5_hang 80 = .ok (.istore 4, 2) := by decide +kernel
theorem dX5_hang_82 : decode cX5_hang 82 = .ok (.iinc 5 1, 3) := by decide +kernel
theorem dX5_hang_85 : decode cX5_hang 85 = .ok (.goto (-79), 3) := by decide +kernel
theorem dX5_hang_88 : decode cX5_hang 88 = .ok (.iload 4, 2) := by decide +kernel
theorem dX5_hang_90 : decode cX5_hang 90 = .ok (.ireturn, 1) := by decide +kernel
theorem dX5_pieces_0 : decode cX5_pieces 0 = .ok (.iconst 0, 1) := by decide +kernel
theorem dX5_pieces_1 : decode cX5_pieces 1 = .ok (.istore_n 2, 1) := by decide +kernel
theorem dX5_pieces_2 : decode cX5_pieces 2 = .ok (.iconst 0, 1) := by decide +kernel
theorem dX5_pieces_3 : decode cX5_pieces 3 = .ok (.istore_n 3, 1) := by decide +kernel
theorem dX5_pieces_4 : decode cX5_pieces 4 = .ok (.iload_n 3, 1) := by decide +kernel
theorem dX5_pieces_5 : decode cX5_pieces 5 = .ok (.aload_n 0, 1) := by decide +kernel
theorem dX5_pieces_6 : decode cX5_pieces 6 = .ok (.getfield 53, 3) := by decide +kernel
theorem dX5_pieces_9 : decode cX5_pieces 9 = .ok (.if_icmp .ge 33, 3) := by decide +kernel
theorem dX5_pieces_12 : decode cX5_pieces 12 = .ok (.aload_n 0, 1) := by decide +kernel
theorem dX5_pieces_13 : decode cX5_pieces 13 = .ok (.getfield 32, 3) := by decide +kernel
theorem dX5_pieces_16 : decode cX5_pieces 16 = .ok (.iload_n 3, 1) := by decide +kernel
theorem dX5_pieces_17 : decode cX5_pieces 17 = .ok (.iload_n 1, 1) := by decide +kernel
theorem dX5_pieces_18 : decode cX5_pieces 18 = .ok (.ifCond .lt 12, 3) := by decide +kernel
theorem dX5_pieces_21 : decode cX5_pieces 21 = .ok (.aload_n 0, 1) := by decide +kernel
theorem dX5_pieces_22 : decode cX5_pieces 22 = .ok (.iload_n 3, 1) := by decide +kernel
theorem dX5_pieces_23 : decode cX5_pieces 23 = .ok (.iload_n 1, 1) := by decide +kernel
theorem dX5_pieces_24 : decode cX5_pieces 24 = .ok (.invokevirtual 103, 3) := by decide +kernel
theorem dX5_pieces_27 : decode cX5_pieces 27 = .ok (.ifCond .eq 7, 3) := by decide +kernel
theorem dX5_pieces_30 : decode cX5_pieces 30 = .ok (.iconst 0, 1) := by decide +kernel
theorem dX5_pieces_31 : decode cX5_pieces 31 = .ok (.goto 4, 3) := by decide +kernel
theorem dX5_pieces_34 : decode cX5_pieces 34 = .ok (.iconst (-1), 1) := by decide +kernel
theorem dX5_pieces_35 : decode cX5_pieces 35 = .ok (.iastore, 1) := by decide +kernel
theorem dX5_pieces_36 : decode cX5_pieces 36 = .ok (.iinc 3 1, 3) := by decide +kernel
theorem dX5_pieces_39 : decode cX5_pieces 39 = .ok (.goto (-35), 3) := by decide +kernel
theorem dX5_pieces_42 : decode cX5_pieces 42 = .ok (.iconst 0, 1) := by decide +kernel
theorem dX5_pieces_43 : decode cX5_pieces 43 = .ok (.istore_n 3, 1) := by decide +kernel
theorem dX5_pieces_44 : decode cX5_pieces 44 = .ok (.iload_n 3, 1) := by decide +kernel
theorem dX5_pieces_45 : decode cX5_pieces 45 = .ok (.aload_n 0, 1) := by decide +kernel
theorem dX5_pieces_46 : decode cX5_pieces 46 = .ok (.getfield 53, 3) := by decide +kernel
theorem dX5_pieces_49 : decode cX5_pieces 49 = .ok (.if_icmp .ge 122, 3) := by decide +kernel
theorem dX5_pieces_52 : decode cX5_pieces 52 = .ok (.aload_n 0, 1) := by decide +kernel
theorem dX5_pieces_53 : decode cX5_pieces 53 = .ok (.getfield 32, 3) := by decide +kernel
theorem dX5_pieces_56 : decode cX5_pieces 56 = .ok (.iload_n 3, 1) := by decide +kernel
theorem dX5_pieces_57 : decode cX5_pieces 57 = .ok (.iaload, 1) := by decide +kernel
theorem dX5_pieces_58 : decode cX5_pieces 58 = .ok (.ifCond .ne 107, 3) := by decide +kernel
theorem dX5_pieces_61 : decode cX5_pieces 61 = .ok (.iinc 2 1, 3) := by decide +kernel
theorem dX5_pieces_64 : decode cX5_pieces 64 = .ok (.aload_n 0, 1) := by decide +kernel
theorem dX5_pieces_65 : decode cX5_pieces 65 = .ok (.getfield 32, 3) := by decide +kernel
theorem dX5_pieces_68 : decode cX5_pieces 68 = .ok (.iload_n 3, 1) := by decide +kernel
theorem dX5_pieces_69 : decode cX5_pieces 69 = .ok (.iload_n 2, 1) := by decide +kernel
theorem dX5_pieces_70 : decode cX5_pieces 70 = .ok (.iastore, 1) := by decide +kernel
theorem dX5_pieces_71 : decode cX5_pieces 71 = .ok (.iconst 1, 1) := by decide +kernel
theorem dX5_pieces_72 : decode cX5_pieces 72 = .ok (.istore 4, 2) := by decide +kernel
theorem dX5_pieces_74 : decode cX5_pieces 74 = .ok (.iload 4, 2) := by decide +kernel
theorem dX5_pieces_76 : decode cX5_pieces 76 = .ok (.ifCond .eq 89, 3) := by decide +kernel
theorem dX5_pieces_79 : decode cX5_pieces 79 = .ok (.iconst 0, 1) := by decide +kernel
theorem dX5_pieces_80 : decode cX5_pieces 80 = .ok (.istore 4, 2) := by decide +kernel
theorem dX5_pieces_82 : decode cX5_pieces 82 = .ok (.iconst 0, 1) := by decide +kernel
theorem dX5_pieces_83 : decode cX5_pieces 83 = .ok (.istore 5, 2) := by decide +kernel
theorem dX5_pieces_85 : decode cX5_pieces 85 = .ok (.iload 5, 2) := by decide +kernel
theorem dX5_pieces_87 : decode cX5_pieces 87 = .ok (.aload_n 0, 1) := by decide +kernel
theorem dX5_pieces_88 : decode cX5_pieces 88 = .ok (.getfield 53, 3) := by decide +kernel
theorem dX5_pieces_91 : decode cX5_pieces 91 = .ok (.if_icmp .ge 71, 3) := by decide +kernel
theorem dX5_pieces_94 : decode cX5_pieces 94 = .ok (.iconst 0, 1) := by decide +kernel
theorem dX5_pieces_95 : decode cX5_pieces 95 = .ok (.istore 6, 2) := by decide +kernel
theorem dX5_pieces_97 : decode cX5_pieces 97 = .ok (.iload 6, 2) := by decide +kernel
theorem dX5_pieces_99 : decode cX5_pieces 99 = .ok (.aload_n 0, 1) := by decide +kernel
theorem dX5_pieces_100 : decode cX5_pieces 100 = .ok (.getfield 53, 3) := by decide +kernel
theorem dX5_pieces_103 : decode cX5_pieces 103 = .ok (.if_icmp .ge 53, 3) := by decide +kernel
theorem dX5_pieces_106 : decode cX5_pieces 106 = .ok (.aload_n 0, 1) := by decide +kernel
theorem dX5_pieces_107 : decode cX5_pieces 107 = .ok (.getfield 32, 3) := by decide +kernel
theorem dX5_pieces_110 : decode cX5_pieces 110 = .ok (.iload 5, 2) := by decide +kernel
theorem dX5_pieces_112 : decode cX5_pieces 112 = .ok (.iaload, 1) := by decide +kernel
theorem dX5_pieces_113 : decode cX5_pieces 113 = .ok (.iload_n 2, 1) := by decide +kernel
theorem dX5_pieces_114 : decode cX5_pieces 114 = .ok (.if_icmp .ne 36, 3) := by decide +kernel
theorem dX5_pieces_117 : decode cX5_pieces 117 = .ok (.aload_n 0, 1) := by decide +kernel
theorem dX5_pieces_118 : decode cX5_pieces 118 = .ok (.getfield 32, 3) := by decide +kernel
theorem dX5_pieces_121 : decode cX5_pieces 121 = .ok (.iload 6, 2) := by decide +kernel
theorem dX5_pieces_123 : decode cX5_pieces 123 = .ok (.iaload, 1) := by decide +kernel
theorem dX5_pieces_124 : decode cX5_pieces 124 = .ok (.ifCond .ne 26, 3) := by decide +kernel
theorem dX5_pieces_127 : decode cX5_pieces 127 = .ok (.aload_n 0, 1) := by decide +kernel
theorem dX5_pieces_128 : decode cX5_pieces 128 = .ok (.iload 5, 2) := by decide +kernel
theorem dX5_pieces_130 : decode cX5_pieces 130 = .ok (.iload 6, 2) := by decide +kernel
theorem dX5_pieces_132 : decode cX5_pieces 132 = .ok (.iload_n 1, 1) := by decide +kernel
theorem dX5_pieces_133 : decode cX5_pieces 133 = .ok (.invokevirtual 106, 3) := by decide +kernel
theorem dX5_pieces_136 : decode cX5_pieces 136 = .ok (.ifCond .eq 14, 3) := by decide +kernel
theorem dX5_pieces_139 : decode cX5_pieces 139 = .ok (.aload_n 0, 1) := by decide +kernel
theorem dX5_pieces_140 : decode cX5_pieces 140 = .ok (.getfield 32, 3) := by decide +kernel
theorem dX5_pieces_143 : decode cX5_pieces 143 = .ok (.iload 6, 2) := by decide +kernel
theorem dX5_pieces_145 : decode cX5_pieces 145 = .ok (.iload_n 2, 1) := by decide +kernel
theorem dX5_pieces_146 : decode cX5_pieces 146 = .ok (.iastore, 1) := by decide +kernel
theorem dX5_pieces_147 : decode cX5_pieces 147 = .ok (.iconst 1, 1) := by decide +kernel
theorem dX5_pieces_148 : decode cX5_pieces 148 = .ok (.istore 4, 2) := by decide +kernel
theorem dX5_pieces_150 : decode cX5_pieces 150 = .ok (.iinc 6 1, 3) := by decide +kernel
theorem dX5_pieces_153 : decode cX5_pieces 153 = .ok (.goto (-56), 3) := by decide +kernel
theorem dX5_pieces_156 : decode cX5_pieces 156 = .ok (.iinc 5 1, 3) := by decide +kernel
theorem dX5_pieces_159 : decode cX5_pieces 159 = .ok (.goto (-74), 3) := by decide +kernel
theorem dX5_pieces_162 : decode cX5_pieces 162 = .ok (.goto (-88), 3) := by decide +kernel
theorem dX5_pieces_165 : decode cX5_pieces 165 = .ok (.iinc 3 1, 3) := by decide +kernel
theorem dX5_pieces_168 : decode cX5_pieces 168 = .ok (.goto (-124), 3) := by decide +kernel
theorem dX5_pieces_171 : decode cX5_pieces 171 = .ok (.iload_n 2, 1) := by decide +kernel
theorem dX5_pieces_172 : decode cX5_pieces 172 = .ok (.ireturn, 1) := by decide +kernel
theorem dX5_sumOfRow_0 : decode cX5_sumOfRow 0 = .ok (.aload_n 0, 1) := by decide +kernel
theorem dX5_sumOfRow_1 : decode cX5_sumOfRow 1 = .ok (.invokevirtual 109, 3) := by decide +kernel
theorem dX5_sumOfRow_4 : decode cX5_sumOfRow 4 = .ok (.ifCond .ne 6, 3) := by decide +kernel
theorem dX5_sumOfRow_7 : decode cX5_sumOfRow 7 = .ok (.bipush (-6), 2) := by decide +kernel
theorem dX5_sumOfRow_9 : decode cX5_sumOfRow 9 = .ok (.ireturn, 1) := by decide +kernel
theorem dX5_sumOfRow_10 : decode cX5_sumOfRow 10 = .ok (.iconst 0, 1) := by decide +kernel
theorem dX5_sumOfRow_11 : decode cX5_sumOfRow 11 = .ok (.istore_n 2, 1) := by decide +kernel
theorem dX5_sumOfRow_12 : decode cX5_sumOfRow 12 = .ok (.iconst 0, 1) := by decide +kernel
theorem dX5_sumOfRow_13 : decode cX5_sumOfRow 13 = .ok (.istore_n 3, 1) := by decide +kernel
theorem dX5_sumOfRow_14 : decode cX5_sumOfRow 14 = .ok (.iload_n 3, 1) := by decide +kernel
theorem dX5_sumOfRow_15 : decode cX5_sumOfRow 15 = .ok (.iconst 3, 1) := by decide +kernel
theorem dX5_sumOfRow_16 : decode cX5_sumOfRow 16 = .ok (.aload_n 0, 1) := by decide +kernel
theorem dX5_sumOfRow_17 : decode cX5_sumOfRow 17 = .ok (.getfield 53, 3) := by decide +kernel
theorem dX5_sumOfRow_20 : decode cX5_sumOfRow 20 = .ok (.imul, 1) := by decide +kernel
theorem dX5_sumOfRow_21 : decode cX5_sumOfRow 21 = .ok (.if_icmp .ge 37, 3) := by decide +kernel
theorem dX5_sumOfRow_24 : decode cX5_sumOfRow 24 = .ok (.iload_n 2, 1) := by decide +kernel
theorem dX5_sumOfRow_25 : decode cX5_sumOfRow 25 = .ok (.aload_n 0, 1) := by decide +kernel
theorem dX5_sumOfRow_26 : decode cX5_sumOfRow 26 = .ok (.getfield 13, 3) := by decide +kernel
theorem dX5_sumOfRow_29 : decode cX5_sumOfRow 29 = .ok (.iload_n 3, 1) := by decide +kernel
theorem dX5_sumOfRow_30 : decode cX5_sumOfRow 30 = .ok (.iaload, 1) := by decide +kernel
theorem dX5_sumOfRow_31 : decode cX5_sumOfRow 31 = .ok (.iload_n 1, 1) := by decide +kernel
theorem dX5_sumOfRow_32 : decode cX5_sumOfRow 32 = .ok (.if_icmp .ne 17, 3) := by decide +kernel
theorem dX5_sumOfRow_35 : decode cX5_sumOfRow 35 = .ok (.aload_n 0, 1) := by decide +kernel
theorem dX5_sumOfRow_36 : decode cX5_sumOfRow 36 = .ok (.getfield 20, 3) := by decide +kernel
theorem dX5_sumOfRow_39 : decode cX5_sumOfRow 39 = .ok (.aload_n 0, 1) := by decide +kernel
theorem dX5_sumOfRow_40 : decode cX5_sumOfRow 40 = .ok (.getfield 26, 3) := by decide +kernel
theorem dX5_sumOfRow_43 : decode cX5_sumOfRow 43 = .ok (.iload_n 3, 1) := by decide +kernel
theorem dX5_sumOfRow_44 : decode cX5_sumOfRow 44 = .ok (.iaload, 1) := by decide +kernel
theorem dX5_sumOfRow_45 : decode cX5_sumOfRow 45 = .ok (.iadd, 1) := by decide +kernel
theorem dX5_sumOfRow_46 : decode cX5_sumOfRow 46 = .ok (.goto 4, 3) := by decide +kernel
theorem dX5_sumOfRow_49 : decode cX5_sumOfRow 49 = .ok (.iconst 0, 1) := by decide +kernel
theorem dX5_sumOfRow_50 : decode cX5_sumOfRow 50 = .ok (.iadd, 1) := by decide +kernel
theorem dX5_sumOfRow_51 : decode cX5_sumOfRow 51 = .ok (.istore_n 2, 1) := by decide +kernel
theorem dX5_sumOfRow_52 : decode cX5_sumOfRow 52 = .ok (.iinc 3 1, 3) := by decide +kernel
theorem dX5_sumOfRow_55 : decode cX5_sumOfRow 55 = .ok (.goto (-41), 3) := by decide +kernel
end
section
theorem dX5_sumOfRow_58 : decode cX5_sumOfRow 58 = .ok (.iload_n 2, 1) := by decide +kernel
theorem dX5_sumOfRow_59 : decode cX5_sumOfRow 59 = .ok (.ireturn, 1) := by decide +kernel
theorem dX5_about_0 : decode cX5_about 0 = .ok (.aload_n 0, 1) := by decide +kernel
theorem dX5_about_1 : decode cX5_about 1 = .ok (.iload_n 1, 1) := by decide +kernel
theorem dX5_about_2 : decode cX5_about 2 = .ok (.invokevirtual 70, 3) := by decide +kernel
theorem dX5_about_5 : decode cX5_about 5 = .ok (.ifCond .ne 5, 3) := by decide +kernel
theorem dX5_about_8 : decode cX5_about 8 = .ok (.iconst (-1), 1) := by decide +kernel
theorem dX5_about_9 : decode cX5_about 9 = .ok (.ireturn, 1) := by decide +kernel
theorem dX5_about_10 : decode cX5_about 10 = .ok (.iload_n 2, 1) := by decide +kernel
theorem dX5_about_11 : decode cX5_about 11 = .ok (.tableswitch 103 0 5 #[37, 43, 51, 75, 90, 97], 37) := by decide +kernel
theorem dX5_about_48 : decode cX5_about 48 = .ok (.aload_n 0, 1) := by decide +kernel
theorem dX5_about_49 : decode cX5_about 49 = .ok (.iload_n 1, 1) := by decide +kernel
theorem dX5_about_50 : decode cX5_about 50 = .ok (.invokevirtual 113, 3) := by decide +kernel
theorem dX5_about_53 : decode cX5_about 53 = .ok (.ireturn, 1) := by decide +kernel
theorem dX5_about_54 : decode cX5_about 54 = .ok (.aload_n 0, 1) := by decide +kernel
theorem dX5_about_55 : decode cX5_about 55 = .ok (.iload_n 1, 1) := by decide +kernel
theorem dX5_about_56 : decode cX5_about 56 = .ok (.iconst 1, 1) := by decide +kernel
theorem dX5_about_57 : decode cX5_about 57 = .ok (.iconst 2, 1) := by decide +kernel
theorem dX5_about_58 : decode cX5_about 58 = .ok (.invokevirtual 117, 3) := by decide +kernel
theorem dX5_about_61 : decode cX5_about 61 = .ok (.ireturn, 1) := by decide +kernel
theorem dX5_about_62 : decode cX5_about 62 = .ok (.aload_n 0, 1) := by decide +kernel
theorem dX5_about_63 : decode cX5_about 63 = .ok (.iload_n 1, 1) := by decide +kernel
theorem dX5_about_64 : decode cX5_about 64 = .ok (.invokevirtual 113, 3) := by decide +kernel
theorem dX5_about_67 : decode cX5_about 67 = .ok (.ifCond .le 17, 3) := by decide +kernel
theorem dX5_about_70 : decode cX5_about 70 = .ok (.aload_n 0, 1) := by decide +kernel
theorem dX5_about_71 : decode cX5_about 71 = .ok (.iload_n 1, 1) := by decide +kernel
theorem dX5_about_72 : decode cX5_about 72 = .ok (.iconst 1, 1) := by decide +kernel
theorem dX5_about_73 : decode cX5_about 73 = .ok (.iconst 1, 1) := by decide +kernel
theorem dX5_about_74 : decode cX5_about 74 = .ok (.invokevirtual 117, 3) := by decide +kernel
theorem dX5_about_77 : decode cX5_about 77 = .ok (.ifCond .ne 7, 3) := by decide +kernel
theorem dX5_about_80 : decode cX5_about 80 = .ok (.iconst 1, 1) := by decide +kernel
theorem dX5_about_81 : decode cX5_about 81 = .ok (.goto 4, 3) := by decide +kernel
theorem dX5_about_84 : decode cX5_about 84 = .ok (.iconst 0, 1) := by decide +kernel
theorem dX5_about_85 : decode cX5_about 85 = .ok (.ireturn, 1) := by decide +kernel
theorem dX5_about_86 : decode cX5_about 86 = .ok (.aload_n 0, 1) := by decide +kernel
theorem dX5_about_87 : decode cX5_about 87 = .ok (.iload_n 1, 1) := by decide +kernel
theorem dX5_about_88 : decode cX5_about 88 = .ok (.invokevirtual 120, 3) := by decide +kernel
theorem dX5_about_91 : decode cX5_about 91 = .ok (.iconst 1, 1) := by decide +kernel
theorem dX5_about_92 : decode cX5_about 92 = .ok (.if_icmp .ne 7, 3) := by decide +kernel
theorem dX5_about_95 : decode cX5_about 95 = .ok (.iconst 1, 1) := by decide +kernel
theorem dX5_about_96 : decode cX5_about 96 = .ok (.goto 4, 3) := by decide +kernel
theorem dX5_about_99 : decode cX5_about 99 = .ok (.iconst 0, 1) := by decide +kernel
theorem dX5_about_100 : decode cX5_about 100 = .ok (.ireturn, 1) := by decide +kernel
theorem dX5_about_101 : decode cX5_about 101 = .ok (.aload_n 0, 1) := by decide +kernel
theorem dX5_about_102 : decode cX5_about 102 = .ok (.getfield 23, 3) := by decide +kernel
theorem dX5_about_105 : decode cX5_about 105 = .ok (.iload_n 1, 1) := by decide +kernel
theorem dX5_about_106 : decode cX5_about 106 = .ok (.iaload, 1) := by decide +kernel
theorem dX5_about_107 : decode cX5_about 107 = .ok (.ireturn, 1) := by decide +kernel
theorem dX5_about_108 : decode cX5_about 108 = .ok (.aload_n 0, 1) := by decide +kernel
theorem dX5_about_109 : decode cX5_about 109 = .ok (.iload_n 1, 1) := by decide +kernel
theorem dX5_about_110 : decode cX5_about 110 = .ok (.invokevirtual 123, 3) := by decide +kernel
theorem dX5_about_113 : decode cX5_about 113 = .ok (.ireturn, 1) := by decide +kernel
theorem dX5_about_114 : decode cX5_about 114 = .ok (.bipush (-2), 2) := by decide +kernel
theorem dX5_about_116 : decode cX5_about 116 = .ok (.ireturn, 1) := by decide +kernel
theorem dX5_sides_0 : decode cX5_sides 0 = .ok (.iconst 0, 1) := by decide +kernel
theorem dX5_sides_1 : decode cX5_sides 1 = .ok (.istore_n 2, 1) := by decide +kernel
theorem dX5_sides_2 : decode cX5_sides 2 = .ok (.iconst 0, 1) := by decide +kernel
theorem dX5_sides_3 : decode cX5_sides 3 = .ok (.istore_n 3, 1) := by decide +kernel
theorem dX5_sides_4 : decode cX5_sides 4 = .ok (.iload_n 3, 1) := by decide +kernel
theorem dX5_sides_5 : decode cX5_sides 5 = .ok (.aload_n 0, 1) := by decide +kernel
theorem dX5_sides_6 : decode cX5_sides 6 = .ok (.getfield 7, 3) := by decide +kernel
theorem dX5_sides_9 : decode cX5_sides 9 = .ok (.if_icmp .ge 43, 3) := by decide +kernel
theorem dX5_sides_12 : decode cX5_sides 12 = .ok (.iconst 0, 1) := by decide +kernel
theorem dX5_sides_13 : decode cX5_sides 13 = .ok (.istore 4, 2) := by decide +kernel
theorem dX5_sides_15 : decode cX5_sides 15 = .ok (.iload 4, 2) := by decide +kernel
theorem dX5_sides_17 : decode cX5_sides 17 = .ok (.iload_n 3, 1) := by decide +kernel
theorem dX5_sides_18 : decode cX5_sides 18 = .ok (.if_icmp .ge 28, 3) := by decide +kernel
theorem dX5_sides_21 : decode cX5_sides 21 = .ok (.iload_n 2, 1) := by decide +kernel
theorem dX5_sides_22 : decode cX5_sides 22 = .ok (.aload_n 0, 1) := by decide +kernel
theorem dX5_sides_23 : decode cX5_sides 23 = .ok (.iload_n 3, 1) := by decide +kernel
theorem dX5_sides_24 : decode cX5_sides 24 = .ok (.iload 4, 2) := by decide +kernel
theorem dX5_sides_26 : decode cX5_sides 26 = .ok (.invokevirtual 93, 3) := by decide +kernel
theorem dX5_sides_29 : decode cX5_sides 29 = .ok (.iload_n 1, 1) := by decide +kernel
theorem dX5_sides_30 : decode cX5_sides 30 = .ok (.if_icmp .lt 7, 3) := by decide +kernel
theorem dX5_sides_33 : decode cX5_sides 33 = .ok (.iconst 1, 1) := by decide +kernel
theorem dX5_sides_34 : decode cX5_sides 34 = .ok (.goto 4, 3) := by decide +kernel
theorem dX5_sides_37 : decode cX5_sides 37 = .ok (.iconst 0, 1) := by decide +kernel
theorem dX5_sides_38 : decode cX5_sides 38 = .ok (.iadd, 1) := by decide +kernel
theorem dX5_sides_39 : decode cX5_sides 39 = .ok (.istore_n 2, 1) := by decide +kernel
theorem dX5_sides_40 : decode cX5_sides 40 = .ok (.iinc 4 1, 3) := by decide +kernel
theorem dX5_sides_43 : decode cX5_sides 43 = .ok (.goto (-28), 3) := by decide +kernel
theorem dX5_sides_46 : decode cX5_sides 46 = .ok (.iinc 3 1, 3) := by decide +kernel
theorem dX5_sides_49 : decode cX5_sides 49 = .ok (.goto (-45), 3) := by decide +kernel
theorem dX5_sides_52 : decode cX5_sides 52 = .ok (.iload_n 2, 1) := by decide +kernel
theorem dX5_sides_53 : decode cX5_sides 53 = .ok (.ireturn, 1) := by decide +kernel
theorem dX5_told_0 : decode cX5_told 0 = .ok (.iconst 0, 1) := by decide +kernel
theorem dX5_told_1 : decode cX5_told 1 = .ok (.istore_n 2, 1) := by decide +kernel
theorem dX5_told_2 : decode cX5_told 2 = .ok (.iconst 0, 1) := by decide +kernel
theorem dX5_told_3 : decode cX5_told 3 = .ok (.istore_n 3, 1) := by decide +kernel
theorem dX5_told_4 : decode cX5_told 4 = .ok (.iconst 0, 1) := by decide +kernel
theorem dX5_told_5 : decode cX5_told 5 = .ok (.istore 4, 2) := by decide +kernel
theorem dX5_told_7 : decode cX5_told 7 = .ok (.iload 4, 2) := by decide +kernel
theorem dX5_told_9 : decode cX5_told 9 = .ok (.aload_n 0, 1) := by decide +kernel
theorem dX5_told_10 : decode cX5_told 10 = .ok (.getfield 7, 3) := by decide +kernel
theorem dX5_told_13 : decode cX5_told 13 = .ok (.if_icmp .ge 52, 3) := by decide +kernel
theorem dX5_told_16 : decode cX5_told 16 = .ok (.iload_n 2, 1) := by decide +kernel
theorem dX5_told_17 : decode cX5_told 17 = .ok (.aload_n 0, 1) := by decide +kernel
theorem dX5_told_18 : decode cX5_told 18 = .ok (.iload 4, 2) := by decide +kernel
theorem dX5_told_20 : decode cX5_told 20 = .ok (.invokevirtual 113, 3) := by decide +kernel
theorem dX5_told_23 : decode cX5_told 23 = .ok (.ifCond .le 7, 3) := by decide +kernel
theorem dX5_told_26 : decode cX5_told 26 = .ok (.iconst 1, 1) := by decide +kernel
theorem dX5_told_27 : decode cX5_told 27 = .ok (.goto 4, 3) := by decide +kernel
theorem dX5_told_30 : decode cX5_told 30 = .ok (.iconst 0, 1) := by decide +kernel
theorem dX5_told_31 : decode cX5_told 31 = .ok (.iadd, 1) := by decide +kernel
theorem dX5_told_32 : decode cX5_told 32 = .ok (.istore_n 2, 1) := by decide +kernel
theorem dX5_told_33 : decode cX5_told 33 = .ok (.iload_n 3, 1) := by decide +kernel
theorem dX5_told_34 : decode cX5_told 34 = .ok (.aload_n 0, 1) := by decide +kernel
theorem dX5_told_35 : decode cX5_told 35 = .ok (.getfield 23, 3) := by decide +kernel
theorem dX5_told_38 : decode cX5_told 38 = .ok (.iload 4, 2) := by decide +kernel
theorem dX5_told_40 : decode cX5_told 40 = .ok (.iaload, 1) := by decide +kernel
theorem dX5_told_41 : decode cX5_told 41 = .ok (.bipush (-6), 2) := by decide +kernel
theorem dX5_told_43 : decode cX5_told 43 = .ok (.if_icmp .ne 7, 3) := by decide +kernel
theorem dX5_told_46 : decode cX5_told 46 = .ok (.iconst 0, 1) := by decide +kernel
theorem dX5_told_47 : decode cX5_told 47 = .ok (.goto 10, 3) := by decide +kernel
theorem dX5_told_50 : decode cX5_told 50 = .ok (.aload_n 0, 1) := by decide +kernel
theorem dX5_told_51 : decode cX5_told 51 = .ok (.getfield 23, 3) := by decide +kernel
theorem dX5_told_54 : decode cX5_told 54 = .ok (.iload 4, 2) := by decide +kernel
theorem dX5_told_56 : decode cX5_told 56 = .ok (.iaload, 1) := by decide +kernel
theorem dX5_told_57 : decode cX5_told 57 = .ok (.iadd, 1) := by decide +kernel
theorem dX5_told_58 : decode cX5_told 58 = .ok (.istore_n 3, 1) := by decide +kernel
theorem dX5_told_59 : decode cX5_told 59 = .ok (.iinc 4 1, 3) := by decide +kernel
theorem dX5_told_62 : decode cX5_told 62 = .ok (.goto (-55), 3) := by decide +kernel
theorem dX5_told_65 : decode cX5_told 65 = .ok (.iload_n 1, 1) := by decide +kernel
theorem dX5_told_66 : decode cX5_told 66 = .ok (.tableswitch 109 0 8 #[50, 55, 60, 66, 78, 91, 97, 102, 107], 50) := by decide +kernel
theorem dX5_told_116 : decode cX5_told 116 = .ok (.aload_n 0, 1) := by decide +kernel
theorem dX5_told_117 : decode cX5_told 117 = .ok (.getfield 7, 3) := by decide +kernel
theorem dX5_told_120 : decode cX5_told 120 = .ok (.ireturn, 1) := by decide +kernel
theorem dX5_told_121 : decode cX5_told 121 = .ok (.aload_n 0, 1) := by decide +kernel
theorem dX5_told_122 : decode cX5_told 122 = .ok (.getfield 53, 3) := by decide +kernel
theorem dX5_told_125 : decode cX5_told 125 = .ok (.ireturn, 1) := by decide +kernel
theorem dX5_told_126 : decode cX5_told 126 = .ok (.aload_n 0, 1) := by decide +kernel
theorem dX5_told_127 : decode cX5_told 127 = .ok (.iconst 1, 1) := by decide +kernel
theorem dX5_told_128 : decode cX5_told 128 = .ok (.invokevirtual 126, 3) := by decide +kernel
theorem dX5_told_131 : decode cX5_told 131 = .ok (.ireturn, 1) := by decide +kernel
theorem dX5_told_132 : decode cX5_told 132 = .ok (.aload_n 0, 1) := by decide +kernel
theorem dX5_told_133 : decode cX5_told 133 = .ok (.iconst 1, 1) := by decide +kernel
theorem dX5_told_134 : decode cX5_told 134 = .ok (.invokevirtual 126, 3) := by decide +kernel
theorem dX5_told_137 : decode cX5_told 137 = .ok (.aload_n 0, 1) := by decide +kernel
theorem dX5_told_138 : decode cX5_told 138 = .ok (.iconst 2, 1) := by decide +kernel
theorem dX5_told_139 : decode cX5_told 139 = .ok (.invokevirtual 126, 3) := by decide +kernel
theorem dX5_told_142 : decode cX5_told 142 = .ok (.isub, 1) := by decide +kernel
theorem dX5_told_143 : decode cX5_told 143 = .ok (.ireturn, 1) := by decide +kernel
theorem dX5_told_144 : decode cX5_told 144 = .ok (.iload_n 2, 1) := by decide +kernel
theorem dX5_told_145 : decode cX5_told 145 = .ok (.aload_n 0, 1) := by decide +kernel
theorem dX5_told_146 : decode cX5_told 146 = .ok (.iconst 1, 1) := by decide +kernel
theorem dX5_told_147 : decode cX5_told 147 = .ok (.invokevirtual 126, 3) := by decide +kernel
theorem dX5_told_150 : decode cX5_told 150 = .ok (.isub, 1) := by decide +kernel
theorem dX5_told_151 : decode cX5_told 151 = .ok (.aload_n 0, 1) := by decide +kernel
theorem dX5_told_152 : decode cX5_told 152 = .ok (.getfield 53, 3) := by decide +kernel
theorem dX5_told_155 : decode cX5_told 155 = .ok (.iadd, 1) := by decide +kernel
theorem dX5_told_156 : decode cX5_told 156 = .ok (.ireturn, 1) := by decide +kernel
theorem dX5_told_157 : decode cX5_told 157 = .ok (.aload_n 0, 1) := by decide +kernel
theorem dX5_told_158 : decode cX5_told 158 = .ok (.iconst (-1), 1) := by decide +kernel
theorem dX5_told_159 : decode cX5_told 159 = .ok (.invokevirtual 120, 3) := by decide +kernel
theorem dX5_told_162 : decode cX5_told 162 = .ok (.ireturn, 1) := by decide +kernel
theorem dX5_told_163 : decode cX5_told 163 = .ok (.aload_n 0, 1) := by decide +kernel
theorem dX5_told_164 : decode cX5_told 164 = .ok (.getfield 17, 3) := by decide +kernel
theorem dX5_told_167 : decode cX5_told 167 = .ok (.ireturn, 1) := by decide +kernel
theorem dX5_told_168 : decode cX5_told 168 = .ok (.aload_n 0, 1) := by decide +kernel
theorem dX5_told_169 : decode cX5_told 169 = .ok (.getfield 20, 3) := by decide +kernel
theorem dX5_told_172 : decode cX5_told 172 = .ok (.ireturn, 1) := by decide +kernel
theorem dX5_told_173 : decode cX5_told 173 = .ok (.iload_n 3, 1) := by decide +kernel
theorem dX5_told_174 : decode cX5_told 174 = .ok (.ireturn, 1) := by decide +kernel
theorem dX5_told_175 : decode cX5_told 175 = .ok (.sipush (-1002), 3) := by decide +kernel
theorem dX5_told_178 : decode cX5_told 178 = .ok (.ireturn, 1) := by decide +kernel
theorem dX5_straight_0 : decode cX5_straight 0 = .ok (.iload_n 1, 1) := by decide +kernel
theorem dX5_straight_1 : decode cX5_straight 1 = .ok (.bipush 6, 2) := by decide +kernel
theorem dX5_straight_3 : decode cX5_straight 3 = .ok (.sipush 360, 3) := by decide +kernel
theorem dX5_straight_6 : decode cX5_straight 6 = .ok (.invokestatic 66, 3) := by decide +kernel
theorem dX5_straight_9 : decode cX5_straight 9 = .ok (.ifCond .eq 13, 3) := by decide +kernel
theorem dX5_straight_12 : decode cX5_straight 12 = .ok (.iconst 3, 1) := by decide +kernel
theorem dX5_straight_13 : decode cX5_straight 13 = .ok (.aload_n 0, 1) := by decide +kernel
theorem dX5_straight_14 : decode cX5_straight 14 = .ok (.getfield 20, 3) := by decide +kernel
theorem dX5_straight_17 : decode cX5_straight 17 = .ok (.imul, 1) := by decide +kernel
theorem dX5_straight_18 : decode cX5_straight 18 = .ok (.iload_n 1, 1) := by decide +kernel
theorem dX5_straight_19 : decode cX5_straight 19 = .ok (.if_icmp .le 6, 3) := by decide +kernel
theorem dX5_straight_22 : decode cX5_straight 22 = .ok (.bipush (-2), 2) := by decide +kernel
theorem dX5_straight_24 : decode cX5_straight 24 = .ok (.ireturn, 1) := by decide +kernel
theorem dX5_straight_25 : decode cX5_straight 25 = .ok (.aload_n 0, 1) := by decide +kernel
theorem dX5_straight_26 : decode cX5_straight 26 = .ok (.getfield 17, 3) := by decide +kernel
theorem dX5_straight_29 : decode cX5_straight 29 = .ok (.istore_n 2, 1) := by decide +kernel
theorem dX5_straight_30 : decode cX5_straight 30 = .ok (.aload_n 0, 1) := by decide +kernel
theorem dX5_straight_31 : decode cX5_straight 31 = .ok (.iload_n 1, 1) := by decide +kernel
theorem dX5_straight_32 : decode cX5_straight 32 = .ok (.putfield 17, 3) := by decide +kernel
theorem dX5_straight_35 : decode cX5_straight 35 = .ok (.aload_n 0, 1) := by decide +kernel
theorem dX5_straight_36 : decode cX5_straight 36 = .ok (.iconst 0, 1) := by decide +kernel
theorem dX5_straight_37 : decode cX5_straight 37 = .ok (.putfield 62, 3) := by decide +kernel
theorem dX5_straight_40 : decode cX5_straight 40 = .ok (.iload_n 2, 1) := by decide +kernel
theorem dX5_straight_41 : decode cX5_straight 41 = .ok (.ireturn, 1) := by decide +kernel
theorem dX5_least_0 : decode cX5_least 0 = .ok (.iload_n 1, 1) := by decide +kernel
theorem dX5_least_1 : decode cX5_least 1 = .ok (.iconst 1, 1) := by decide +kernel
theorem dX5_least_2 : decode cX5_least 2 = .ok (.bipush 60, 2) := by decide +kernel
theorem dX5_least_4 : decode cX5_least 4 = .ok (.invokestatic 66, 3) := by decide +kernel
theorem dX5_least_7 : decode cX5_least 7 = .ok (.ifCond .eq 13, 3) := by decide +kernel
theorem dX5_least_10 : decode cX5_least 10 = .ok (.iconst 3, 1) := by decide +kernel
theorem dX5_least_11 : decode cX5_least 11 = .ok (.iload_n 1, 1) := by decide +kernel
theorem dX5_least_12 : decode cX5_least 12 = .ok (.imul, 1) := by decide +kernel
theorem dX5_least_13 : decode cX5_least 13 = .ok (.aload_n 0, 1) := by decide +kernel
theorem dX5_least_14 : decode cX5_least 14 = .ok (.getfield 17, 3) := by decide +kernel
theorem dX5_least_17 : decode cX5_least 17 = .ok (.if_icmp .le 6, 3) := by decide +kernel
theorem dX5_least_20 : decode cX5_least 20 = .ok (.bipush (-2), 2) := by decide +kernel
theorem dX5_least_22 : decode cX5_least 22 = .ok (.ireturn, 1) := by decide +kernel
theorem dX5_least_23 : decode cX5_least 23 = .ok (.aload_n 0, 1) := by decide +kernel
theorem dX5_least_24 : decode cX5_least 24 = .ok (.getfield 20, 3) := by decide +kernel
theorem dX5_least_27 : decode cX5_least 27 = .ok (.istore_n 2, 1) := by decide +kernel
theorem dX5_least_28 : decode cX5_least 28 = .ok (.aload_n 0, 1) := by decide +kernel
theorem dX5_least_29 : decode cX5_least 29 = .ok (.iload_n 1, 1) := by decide +kernel
theorem dX5_least_30 : decode cX5_least 30 = .ok (.putfield 20, 3) := by decide +kernel
theorem dX5_least_33 : decode cX5_least 33 = .ok (.aload_n 0, 1) := by decide +kernel
theorem dX5_least_34 : decode cX5_least 34 = .ok (.iconst 0, 1) := by decide +kernel
theorem dX5_least_35 : decode cX5_least 35 = .ok (.putfield 62, 3) := by decide +kernel
theorem dX5_least_38 : decode cX5_least 38 = .ok (.iload_n 2, 1) := by decide +kernel
theorem dX5_least_39 : decode cX5_least 39 = .ok (.ireturn, 1) := by decide +kernel
theorem dX5_clearWays_0 : decode cX5_clearWays 0 = .ok (.aload_n 0, 1) := by decide +kernel
theorem dX5_clearWays_1 : decode cX5_clearWays 1 = .ok (.iconst 0, 1) := by decide +kernel
theorem dX5_clearWays_2 : decode cX5_clearWays 2 = .ok (.putfield 129, 3) := by decide +kernel
theorem dX5_clearWays_5 : decode cX5_clearWays 5 = .ok (.iconst 0, 1) := by decide +kernel
theorem dX5_clearWays_6 : decode cX5_clearWays 6 = .ok (.istore_n 1, 1) := by decide +kernel
theorem dX5_clearWays_7 : decode cX5_clearWays 7 = .ok (.iload_n 1, 1) := by decide +kernel
theorem dX5_clearWays_8 : decode cX5_clearWays 8 = .ok (.bipush 21, 2) := by decide +kernel
theorem dX5_clearWays_10 : decode cX5_clearWays 10 = .ok (.if_icmp .ge 17, 3) := by decide +kernel
theorem dX5_clearWays_13 : decode cX5_clearWays 13 = .ok (.aload_n 0, 1) := by decide +kernel
theorem dX5_clearWays_14 : decode cX5_clearWays 14 = .ok (.getfield 41, 3) := by decide +kernel
theorem dX5_clearWays_17 : decode cX5_clearWays 17 = .ok (.iload_n 1, 1) := by decide +kernel
theorem dX5_clearWays_18 : decode cX5_clearWays 18 = .ok (.bipush (-2), 2) := by decide +kernel
theorem dX5_clearWays_20 : decode cX5_clearWays 20 = .ok (.iastore, 1) := by decide +kernel
theorem dX5_clearWays_21 : decode cX5_clearWays 21 = .ok (.iinc 1 1, 3) := by decide +kernel
theorem dX5_clearWays_24 : decode cX5_clearWays 24 = .ok (.goto (-17), 3) := by decide +kernel
theorem dX5_clearWays_27 : decode cX5_clearWays 27 = .ok (.return_, 1) := by decide +kernel
theorem dX5_come_0 : decode cX5_come 0 = .ok (.aload_n 0, 1) := by decide +kernel
theorem dX5_come_1 : decode cX5_come 1 = .ok (.getfield 41, 3) := by decide +kernel
theorem dX5_come_4 : decode cX5_come 4 = .ok (.iload_n 1, 1) := by decide +kernel
theorem dX5_come_5 : decode cX5_come 5 = .ok (.iaload, 1) := by decide +kernel
theorem dX5_come_6 : decode cX5_come 6 = .ok (.bipush (-2), 2) := by decide +kernel
theorem dX5_come_8 : decode cX5_come 8 = .ok (.if_icmp .ne 37, 3) := by decide +kernel
theorem dX5_come_11 : decode cX5_come 11 = .ok (.aload_n 0, 1) := by decide +kernel
theorem dX5_come_12 : decode cX5_come 12 = .ok (.getfield 41, 3) := by decide +kernel
theorem dX5_come_15 : decode cX5_come 15 = .ok (.iload_n 1, 1) := by decide +kernel
theorem dX5_come_16 : decode cX5_come 16 = .ok (.iload_n 2, 1) := by decide +kernel
theorem dX5_come_17 : decode cX5_come 17 = .ok (.iastore, 1) := by decide +kernel
theorem dX5_come_18 : decode cX5_come 18 = .ok (.aload_n 0, 1) := by decide +kernel
theorem dX5_come_19 : decode cX5_come 19 = .ok (.getfield 44, 3) := by decide +kernel
theorem dX5_come_22 : decode cX5_come 22 = .ok (.iload_n 1, 1) := by decide +kernel
theorem dX5_come_23 : decode cX5_come 23 = .ok (.iload_n 3, 1) := by decide +kernel
theorem dX5_come_24 : decode cX5_come 24 = .ok (.iastore, 1) := by decide +kernel
theorem dX5_come_25 : decode cX5_come 25 = .ok (.aload_n 0, 1) := by decide +kernel
theorem dX5_come_26 : decode cX5_come 26 = .ok (.getfield 47, 3) := by decide +kernel
theorem dX5_come_29 : decode cX5_come 29 = .ok (.aload_n 0, 1) := by decide +kernel
theorem dX5_come_30 : decode cX5_come 30 = .ok (.getfield 129, 3) := by decide +kernel
theorem dX5_come_33 : decode cX5_come 33 = .ok (.iload_n 1, 1) := by decide +kernel
theorem dX5_come_34 : decode cX5_come 34 = .ok (.iastore, 1) := by decide +kernel
theorem dX5_come_35 : decode cX5_come 35 = .ok (.aload_n 0, 1) := by decide +kernel
theorem dX5_come_36 : decode cX5_come 36 = .ok (.dup, 1) := by decide +kernel
theorem dX5_come_37 : decode cX5_come 37 = .ok (.getfield 129, 3) := by decide +kernel
theorem dX5_come_40 : decode cX5_come 40 = .ok (.iconst 1, 1) := by decide +kernel
theorem dX5_come_41 : decode cX5_come 41 = .ok (.iadd, 1) := by decide +kernel
theorem dX5_come_42 : decode cX5_come 42 = .ok (.putfield 129, 3) := by decide +kernel
theorem dX5_come_45 : decode cX5_come 45 = .ok (.return_, 1) := by decide +kernel
theorem dX5_spread_0 : decode cX5_spread 0 = .ok (.iconst 0, 1) := by decide +kernel
theorem dX5_spread_1 : decode cX5_spread 1 = .ok (.istore_n 3, 1) := by decide +kernel
theorem dX5_spread_2 : decode cX5_spread 2 = .ok (.iload_n 3, 1) := by decide +kernel
theorem dX5_spread_3 : decode cX5_spread 3 = .ok (.aload_n 0, 1) := by decide +kernel
theorem dX5_spread_4 : decode cX5_spread 4 = .ok (.getfield 129, 3) := by decide +kernel
theorem dX5_spread_7 : decode cX5_spread 7 = .ok (.if_icmp .ge 183, 3) := by decide +kernel
theorem dX5_spread_10 : decode cX5_spread 10 = .ok (.aload_n 0, 1) := by decide +kernel
theorem dX5_spread_11 : decode cX5_spread 11 = .ok (.getfield 47, 3) := by decide +kernel
theorem dX5_spread_14 : decode cX5_spread 14 = .ok (.iload_n 3, 1) := by decide +kernel
theorem dX5_spread_15 : decode cX5_spread 15 = .ok (.iaload, 1) := by decide +kernel
theorem dX5_spread_16 : decode cX5_spread 16 = .ok (.istore 4, 2) := by decide +kernel
theorem dX5_spread_18 : decode cX5_spread 18 = .ok (.iload_n 1, 1) := by decide +kernel
theorem dX5_spread_19 : decode cX5_spread 19 = .ok (.istore 5, 2) := by decide +kernel
theorem dX5_spread_21 : decode cX5_spread 21 = .ok (.iload 5, 2) := by decide +kernel
theorem dX5_spread_23 : decode cX5_spread 23 = .ok (.iconst 3, 1) := by decide +kernel
theorem dX5_spread_24 : decode cX5_spread 24 = .ok (.aload_n 0, 1) := by decide +kernel
theorem dX5_spread_25 : decode cX5_spread 25 = .ok (.getfield 53, 3) := by decide +kernel
theorem dX5_spread_28 : decode cX5_spread 28 = .ok (.imul, 1) := by decide +kernel
theorem dX5_spread_29 : decode cX5_spread 29 = .ok (.if_icmp .ge 87, 3) := by decide +kernel
theorem dX5_spread_32 : decode cX5_spread 32 = .ok (.iload 4, 2) := by decide +kernel
theorem dX5_spread_34 : decode cX5_spread 34 = .ok (.bipush 12, 2) := by decide +kernel
theorem dX5_spread_36 : decode cX5_spread 36 = .ok (.if_icmp .ge 30, 3) := by decide +kernel
theorem dX5_spread_39 : decode cX5_spread 39 = .ok (.iload 5, 2) := by decide +kernel
theorem dX5_spread_41 : decode cX5_spread 41 = .ok (.iconst 3, 1) := by decide +kernel
theorem dX5_spread_42 : decode cX5_spread 42 = .ok (.idiv, 1) := by decide +kernel
theorem dX5_spread_43 : decode cX5_spread 43 = .ok (.iload 4, 2) := by decide +kernel
theorem dX5_spread_45 : decode cX5_spread 45 = .ok (.if_icmp .ne 21, 3) := by decide +kernel
theorem dX5_spread_48 : decode cX5_spread 48 = .ok (.aload_n 0, 1) := by decide +kernel
theorem dX5_spread_49 : decode cX5_spread 49 = .ok (.bipush 12, 2) := by decide +kernel
theorem dX5_spread_51 : decode cX5_spread 51 = .ok (.aload_n 0, 1) := by decide +kernel
theorem dX5_spread_52 : decode cX5_spread 52 = .ok (.getfield 13, 3) := by decide +kernel
theorem dX5_spread_55 : decode cX5_spread 55 = .ok (.iload 5, 2) := by decide +kernel
theorem dX5_spread_57 : decode cX5_spread 57 = .ok (.iaload, 1) := by decide +kernel
theorem dX5_spread_58 : decode cX5_spread 58 = .ok (.iadd, 1) := by decide +kernel
theorem dX5_spread_59 : decode cX5_spread 59 = .ok (.iload 4, 2) := by decide +kernel
theorem dX5_spread_61 : decode cX5_spread 61 = .ok (.iload 5, 2) := by decide +kernel
theorem dX5_spread_63 : decode cX5_spread 63 = .ok (.invokevirtual 132, 3) := by decide +kernel
theorem dX5_spread_66 : decode cX5_spread 66 = .ok (.iload 4, 2) := by decide +kernel
theorem dX5_spread_68 : decode cX5_spread 68 = .ok (.bipush 12, 2) := by decide +kernel
theorem dX5_spread_70 : decode cX5_spread 70 = .ok (.if_icmp .lt 40, 3) := by decide +kernel
theorem dX5_spread_73 : decode cX5_spread 73 = .ok (.aload_n 0, 1) := by decide +kernel
theorem dX5_spread_74 : decode cX5_spread 74 = .ok (.getfield 13, 3) := by decide +kernel
theorem dX5_spread_77 : decode cX5_spread 77 = .ok (.iload 5, 2) := by decide +kernel
theorem dX5_spread_79 : decode cX5_spread 79 = .ok (.iaload, 1) := by decide +kernel
theorem dX5_spread_80 : decode cX5_spread 80 = .ok (.iload 4, 2) := by decide +kernel
theorem dX5_spread_82 : decode cX5_spread 82 = .ok (.bipush 12, 2) := by decide +kernel
theorem dX5_spread_84 : decode cX5_spread 84 = .ok (.isub, 1) := by decide +kernel
theorem dX5_spread_85 : decode cX5_spread 85 = .ok (.if_icmp .ne 25, 3) := by decide +kernel
theorem dX5_spread_88 : decode cX5_spread 88 = .ok (.aload_n 0, 1) := by decide +kernel
theorem dX5_spread_89 : decode cX5_spread 89 = .ok (.getfield 26, 3) := by decide +kernel
theorem dX5_spread_92 : decode cX5_spread 92 = .ok (.iload 5, 2) := by decide +kernel
theorem dX5_spread_94 : decode cX5_spread 94 = .ok (.iaload, 1) := by decide +kernel
theorem dX5_spread_95 : decode cX5_spread 95 = .ok (.ifCond .le 15, 3) := by decide +kernel
theorem dX5_spread_98 : decode cX5_spread 98 = .ok (.aload_n 0, 1) := by decide +kernel
theorem dX5_spread_99 : decode cX5_spread 99 = .ok (.iload 5, 2) := by decide +kernel
theorem dX5_spread_101 : decode cX5_spread 101 = .ok (.iconst 3, 1) := by decide +kernel
theorem dX5_spread_102 : decode cX5_spread 102 = .ok (.idiv, 1) := by decide +kernel
theorem dX5_spread_103 : decode cX5_spread 103 = .ok (.iload 4, 2) := by decide +kernel
theorem dX5_spread_105 : decode cX5_spread 105 = .ok (.iload 5, 2) := by decide +kernel
theorem dX5_spread_107 : decode cX5_spread 107 = .ok (.invokevirtual 132, 3) := by decide +kernel
theorem dX5_spread_110 : decode cX5_spread 110 = .ok (.iinc 5 1, 3) := by decide +kernel
theorem dX5_spread_113 : decode cX5_spread 113 = .ok (.goto (-92), 3) := by decide +kernel
theorem dX5_spread_116 : decode cX5_spread 116 = .ok (.iconst 0, 1) := by decide +kernel
theorem dX5_spread_117 : decode cX5_spread 117 = .ok (.istore 5, 2) := by decide +kernel
theorem dX5_spread_119 : decode cX5_spread 119 = .ok (.iload 5, 2) := by decide +kernel
theorem dX5_spread_121 : decode cX5_spread 121 = .ok (.aload_n 0, 1) := by decide +kernel
theorem dX5_spread_122 : decode cX5_spread 122 = .ok (.getfield 7, 3) := by decide +kernel
theorem dX5_spread_125 : decode cX5_spread 125 = .ok (.if_icmp .ge 59, 3) := by decide +kernel
theorem dX5_spread_128 : decode cX5_spread 128 = .ok (.iload_n 2, 1) := by decide +kernel
theorem dX5_spread_129 : decode cX5_spread 129 = .ok (.ifCond .eq 55, 3) := by decide +kernel
theorem dX5_spread_132 : decode cX5_spread 132 = .ok (.iload 4, 2) := by decide +kernel
theorem dX5_spread_134 : decode cX5_spread 134 = .ok (.bipush 12, 2) := by decide +kernel
theorem dX5_spread_136 : decode cX5_spread 136 = .ok (.if_icmp .lt 48, 3) := by decide +kernel
theorem dX5_spread_139 : decode cX5_spread 139 = .ok (.aload_n 0, 1) := by decide +kernel
theorem dX5_spread_140 : decode cX5_spread 140 = .ok (.getfield 23, 3) := by decide +kernel
theorem dX5_spread_143 : decode cX5_spread 143 = .ok (.iload 4, 2) := by decide +kernel
theorem dX5_spread_145 : decode cX5_spread 145 = .ok (.bipush 12, 2) := by decide +kernel
theorem dX5_spread_147 : decode cX5_spread 147 = .ok (.isub, 1) := by decide +kernel
theorem dX5_spread_148 : decode cX5_spread 148 = .ok (.iaload, 1) := by decide +kernel
theorem dX5_spread_149 : decode cX5_spread 149 = .ok (.bipush (-6), 2) := by decide +kernel
theorem dX5_spread_151 : decode cX5_spread 151 = .ok (.if_icmp .ne 27, 3) := by decide +kernel
theorem dX5_spread_154 : decode cX5_spread 154 = .ok (.aload_n 0, 1) := by decide +kernel
theorem dX5_spread_155 : decode cX5_spread 155 = .ok (.getfield 23, 3) := by decide +kernel
theorem dX5_spread_158 : decode cX5_spread 158 = .ok (.iload 5, 2) := by decide +kernel
theorem dX5_spread_160 : decode cX5_spread 160 = .ok (.iaload, 1) := by decide +kernel
theorem dX5_spread_161 : decode cX5_spread 161 = .ok (.bipush (-6), 2) := by decide +kernel
theorem dX5_spread_163 : decode cX5_spread 163 = .ok (.if_icmp .ne 15, 3) := by decide +kernel
theorem dX5_spread_166 : decode cX5_spread 166 = .ok (.aload_n 0, 1) := by decide +kernel
theorem dX5_spread_167 : decode cX5_spread 167 = .ok (.bipush 12, 2) := by decide +kernel
theorem dX5_spread_169 : decode cX5_spread 169 = .ok (.iload 5, 2) := by decide +kernel
theorem dX5_spread_171 : decode cX5_spread 171 = .ok (.iadd, 1) := by decide +kernel
theorem dX5_spread_172 : decode cX5_spread 172 = .ok (.iload 4, 2) := by decide +kernel
theorem dX5_spread_174 : decode cX5_spread 174 = .ok (.iconst (-1), 1) := by decide +kernel
theorem dX5_spread_175 : decode cX5_spread 175 = .ok (.invokevirtual 132, 3) := by decide +kernel
theorem dX5_spread_178 : decode cX5_spread 178 = .ok (.iinc 5 1, 3) := by decide +kernel
theorem dX5_spread_181 : decode cX5_spread 181 = .ok (.goto (-62), 3) := by decide +kernel
theorem dX5_spread_184 : decode cX5_spread 184 = .ok (.iinc 3 1, 3) := by decide +kernel
theorem dX5_spread_187 : decode cX5_spread 187 = .ok (.goto (-185), 3) := by decide +kernel
theorem dX5_spread_190 : decode cX5_spread 190 = .ok (.return_, 1) := by decide +kernel
theorem dX5_wayRoom_0 : decode cX5_wayRoom 0 = .ok (.iload_n 2, 1) := by decide +kernel
theorem dX5_wayRoom_1 : decode cX5_wayRoom 1 = .ok (.istore_n 3, 1) := by decide +kernel
theorem dX5_wayRoom_2 : decode cX5_wayRoom 2 = .ok (.iload_n 1, 1) := by decide +kernel
theorem dX5_wayRoom_3 : decode cX5_wayRoom 3 = .ok (.istore 4, 2) := by decide +kernel
theorem dX5_wayRoom_5 : decode cX5_wayRoom 5 = .ok (.aload_n 0, 1) := by decide +kernel
theorem dX5_wayRoom_6 : decode cX5_wayRoom 6 = .ok (.getfield 41, 3) := by decide +kernel
theorem dX5_wayRoom_9 : decode cX5_wayRoom 9 = .ok (.iload 4, 2) := by decide +kernel
theorem dX5_wayRoom_11 : decode cX5_wayRoom 11 = .ok (.iaload, 1) := by decide +kernel
theorem dX5_wayRoom_12 : decode cX5_wayRoom 12 = .ok (.ifCond .lt 51, 3) := by decide +kernel
theorem dX5_wayRoom_15 : decode cX5_wayRoom 15 = .ok (.iload 4, 2) := by decide +kernel
theorem dX5_wayRoom_17 : decode cX5_wayRoom 17 = .ok (.bipush 12, 2) := by decide +kernel
theorem dX5_wayRoom_19 : decode cX5_wayRoom 19 = .ok (.if_icmp .ge 32, 3) := by decide +kernel
theorem dX5_wayRoom_22 : decode cX5_wayRoom 22 = .ok (.aload_n 0, 1) := by decide +kernel
theorem dX5_wayRoom_23 : decode cX5_wayRoom 23 = .ok (.getfield 26, 3) := by decide +kernel
theorem dX5_wayRoom_26 : decode cX5_wayRoom 26 = .ok (.aload_n 0, 1) := by decide +kernel
theorem dX5_wayRoom_27 : decode cX5_wayRoom 27 = .ok (.getfield 44, 3) := by decide +kernel
theorem dX5_wayRoom_30 : decode cX5_wayRoom 30 = .ok (.iload 4, 2) := by decide +kernel
theorem dX5_wayRoom_32 : decode cX5_wayRoom 32 = .ok (.iaload, 1) := by decide +kernel
theorem dX5_wayRoom_33 : decode cX5_wayRoom 33 = .ok (.iaload, 1) := by decide +kernel
theorem dX5_wayRoom_34 : decode cX5_wayRoom 34 = .ok (.iload_n 3, 1) := by decide +kernel
theorem dX5_wayRoom_35 : decode cX5_wayRoom 35 = .ok (.if_icmp .ge 16, 3) := by decide +kernel
theorem dX5_wayRoom_38 : decode cX5_wayRoom 38 = .ok (.aload_n 0, 1) := by decide +kernel
theorem dX5_wayRoom_39 : decode cX5_wayRoom 39 = .ok (.getfield 26, 3) := by decide +kernel
theorem dX5_wayRoom_42 : decode cX5_wayRoom 42 = .ok (.aload_n 0, 1) := by decide +kernel
theorem dX5_wayRoom_43 : decode cX5_wayRoom 43 = .ok (.getfield 44, 3) := by decide +kernel
theorem dX5_wayRoom_46 : decode cX5_wayRoom 46 = .ok (.iload 4, 2) := by decide +kernel
theorem dX5_wayRoom_48 : decode cX5_wayRoom 48 = .ok (.iaload, 1) := by decide +kernel
theorem dX5_wayRoom_49 : decode cX5_wayRoom 49 = .ok (.iaload, 1) := by decide +kernel
theorem dX5_wayRoom_50 : decode cX5_wayRoom 50 = .ok (.istore_n 3, 1) := by decide +kernel
theorem dX5_wayRoom_51 : decode cX5_wayRoom 51 = .ok (.aload_n 0, 1) := by decide +kernel
theorem dX5_wayRoom_52 : decode cX5_wayRoom 52 = .ok (.getfield 41, 3) := by decide +kernel
theorem dX5_wayRoom_55 : decode cX5_wayRoom 55 = .ok (.iload 4, 2) := by decide +kernel
theorem dX5_wayRoom_57 : decode cX5_wayRoom 57 = .ok (.iaload, 1) := by decide +kernel
theorem dX5_wayRoom_58 : decode cX5_wayRoom 58 = .ok (.istore 4, 2) := by decide +kernel
theorem dX5_wayRoom_60 : decode cX5_wayRoom 60 = .ok (.goto (-55), 3) := by decide +kernel
theorem dX5_wayRoom_63 : decode cX5_wayRoom 63 = .ok (.iload 4, 2) := by decide +kernel
theorem dX5_wayRoom_65 : decode cX5_wayRoom 65 = .ok (.bipush 12, 2) := by decide +kernel
theorem dX5_wayRoom_67 : decode cX5_wayRoom 67 = .ok (.if_icmp .ge 34, 3) := by decide +kernel
theorem dX5_wayRoom_70 : decode cX5_wayRoom 70 = .ok (.iload_n 3, 1) := by decide +kernel
theorem dX5_wayRoom_71 : decode cX5_wayRoom 71 = .ok (.aload_n 0, 1) := by decide +kernel
theorem dX5_wayRoom_72 : decode cX5_wayRoom 72 = .ok (.getfield 35, 3) := by decide +kernel
theorem dX5_wayRoom_75 : decode cX5_wayRoom 75 = .ok (.iload 4, 2) := by decide +kernel
theorem dX5_wayRoom_77 : decode cX5_wayRoom 77 = .ok (.iaload, 1) := by decide +kernel
theorem dX5_wayRoom_78 : decode cX5_wayRoom 78 = .ok (.if_icmp .le 23, 3) := by decide +kernel
theorem dX5_wayRoom_81 : decode cX5_wayRoom 81 = .ok (.aload_n 0, 1) := by decide +kernel
theorem dX5_wayRoom_82 : decode cX5_wayRoom 82 = .ok (.getfield 35, 3) := by decide +kernel
theorem dX5_wayRoom_85 : decode cX5_wayRoom 85 = .ok (.iload 4, 2) := by decide +kernel
theorem dX5_wayRoom_87 : decode cX5_wayRoom 87 = .ok (.iaload, 1) := by decide +kernel
theorem dX5_wayRoom_88 : decode cX5_wayRoom 88 = .ok (.ifCond .le 13, 3) := by decide +kernel
theorem dX5_wayRoom_91 : decode cX5_wayRoom 91 = .ok (.aload_n 0, 1) := by decide +kernel
theorem dX5_wayRoom_92 : decode cX5_wayRoom 92 = .ok (.getfield 35, 3) := by decide +kernel
theorem dX5_wayRoom_95 : decode cX5_wayRoom 95 = .ok (.iload 4, 2) := by decide +kernel
theorem dX5_wayRoom_97 : decode cX5_wayRoom 97 = .ok (.iaload, 1) := by decide +kernel
theorem dX5_wayRoom_98 : decode cX5_wayRoom 98 = .ok (.goto 4, 3) := by decide +kernel
theorem dX5_wayRoom_101 : decode cX5_wayRoom 101 = .ok (.iload_n 3, 1) := by decide +kernel
theorem dX5_wayRoom_102 : decode cX5_wayRoom 102 = .ok (.ireturn, 1) := by decide +kernel
theorem dX5_goWay_0 : decode cX5_goWay 0 = .ok (.iload_n 1, 1) := by decide +kernel
theorem dX5_goWay_1 : decode cX5_goWay 1 = .ok (.istore_n 3, 1) := by decide +kernel
theorem dX5_goWay_2 : decode cX5_goWay 2 = .ok (.aload_n 0, 1) := by decide +kernel
theorem dX5_goWay_3 : decode cX5_goWay 3 = .ok (.getfield 41, 3) := by decide +kernel
theorem dX5_goWay_6 : decode cX5_goWay 6 = .ok (.iload_n 3, 1) := by decide +kernel
theorem dX5_goWay_7 : decode cX5_goWay 7 = .ok (.iaload, 1) := by decide +kernel
theorem dX5_goWay_8 : decode cX5_goWay 8 = .ok (.ifCond .lt 48, 3) := by decide +kernel
theorem dX5_goWay_11 : decode cX5_goWay 11 = .ok (.aload_n 0, 1) := by decide +kernel
theorem dX5_goWay_12 : decode cX5_goWay 12 = .ok (.getfield 44, 3) := by decide +kernel
theorem dX5_goWay_15 : decode cX5_goWay 15 = .ok (.iload_n 3, 1) := by decide +kernel
theorem dX5_goWay_16 : decode cX5_goWay 16 = .ok (.iaload, 1) := by decide +kernel
theorem dX5_goWay_17 : decode cX5_goWay 17 = .ok (.ifCond .lt 29, 3) := by decide +kernel
theorem dX5_goWay_20 : decode cX5_goWay 20 = .ok (.aload_n 0, 1) := by decide +kernel
theorem dX5_goWay_21 : decode cX5_goWay 21 = .ok (.getfield 26, 3) := by decide +kernel
theorem dX5_goWay_24 : decode cX5_goWay 24 = .ok (.aload_n 0, 1) := by decide +kernel
theorem dX5_goWay_25 : decode cX5_goWay 25 = .ok (.getfield 44, 3) := by decide +kernel
theorem dX5_goWay_28 : decode cX5_goWay 28 = .ok (.iload_n 3, 1) := by decide +kernel
theorem dX5_goWay_29 : decode cX5_goWay 29 = .ok (.iaload, 1) := by decide +kernel
theorem dX5_goWay_30 : decode cX5_goWay 30 = .ok (.dup2, 1) := by decide +kernel
theorem dX5_goWay_31 : decode cX5_goWay 31 = .ok (.iaload, 1) := by decide +kernel
theorem dX5_goWay_32 : decode cX5_goWay 32 = .ok (.iload_n 3, 1) := by decide +kernel
theorem dX5_goWay_33 : decode cX5_goWay 33 = .ok (.bipush 12, 2) := by decide +kernel
theorem dX5_goWay_35 : decode cX5_goWay 35 = .ok (.if_icmp .ge 8, 3) := by decide +kernel
theorem dX5_goWay_38 : decode cX5_goWay 38 = .ok (.iload_n 2, 1) := by decide +kernel
theorem dX5_goWay_39 : decode cX5_goWay 39 = .ok (.ineg, 1) := by decide +kernel
theorem dX5_goWay_40 : decode cX5_goWay 40 = .ok (.goto 4, 3) := by decide +kernel
theorem dX5_goWay_43 : decode cX5_goWay 43 = .ok (.iload_n 2, 1) := by decide +kernel
theorem dX5_goWay_44 : decode cX5_goWay 44 = .ok (.iadd, 1) := by decide +kernel
theorem dX5_goWay_45 : decode cX5_goWay 45 = .ok (.iastore, 1) := by decide +kernel
theorem dX5_goWay_46 : decode cX5_goWay 46 = .ok (.aload_n 0, 1) := by decide +kernel
theorem dX5_goWay_47 : decode cX5_goWay 47 = .ok (.getfield 41, 3) := by decide +kernel
theorem dX5_goWay_50 : decode cX5_goWay 50 = .ok (.iload_n 3, 1) := by decide +kernel
theorem dX5_goWay_51 : decode cX5_goWay 51 = .ok (.iaload, 1) := by decide +kernel
theorem dX5_goWay_52 : decode cX5_goWay 52 = .ok (.istore_n 3, 1) := by decide +kernel
theorem dX5_goWay_53 : decode cX5_goWay 53 = .ok (.goto (-51), 3) := by decide +kernel
theorem dX5_goWay_56 : decode cX5_goWay 56 = .ok (.iload_n 3, 1) := by decide +kernel
theorem dX5_goWay_57 : decode cX5_goWay 57 = .ok (.ireturn, 1) := by decide +kernel
theorem dX5_wanting_0 : decode cX5_wanting 0 = .ok (.iconst 0, 1) := by decide +kernel
theorem dX5_wanting_1 : decode cX5_wanting 1 = .ok (.istore_n 2, 1) := by decide +kernel
theorem dX5_wanting_2 : decode cX5_wanting 2 = .ok (.iload_n 2, 1) := by decide +kernel
theorem dX5_wanting_3 : decode cX5_wanting 3 = .ok (.aload_n 0, 1) := by decide +kernel
theorem dX5_wanting_4 : decode cX5_wanting 4 = .ok (.getfield 7, 3) := by decide +kernel
theorem dX5_wanting_7 : decode cX5_wanting 7 = .ok (.if_icmp .ge 78, 3) := by decide +kernel
theorem dX5_wanting_10 : decode cX5_wanting 10 = .ok (.iload_n 1, 1) := by decide +kernel
theorem dX5_wanting_11 : decode cX5_wanting 11 = .ok (.ifCond .eq 31, 3) := by decide +kernel
theorem dX5_wanting_14 : decode cX5_wanting 14 = .ok (.aload_n 0, 1) := by decide +kernel
theorem dX5_wanting_15 : decode cX5_wanting 15 = .ok (.getfield 23, 3) := by decide +kernel
theorem dX5_wanting_18 : decode cX5_wanting 18 = .ok (.iload_n 2, 1) := by decide +kernel
theorem dX5_wanting_19 : decode cX5_wanting 19 = .ok (.iaload, 1) := by decide +kernel
theorem dX5_wanting_20 : decode cX5_wanting 20 = .ok (.bipush (-6), 2) := by decide +kernel
theorem dX5_wanting_22 : decode cX5_wanting 22 = .ok (.if_icmp .eq 16, 3) := by decide +kernel
theorem dX5_wanting_25 : decode cX5_wanting 25 = .ok (.aload_n 0, 1) := by decide +kernel
theorem dX5_wanting_26 : decode cX5_wanting 26 = .ok (.getfield 38, 3) := by decide +kernel
theorem dX5_wanting_29 : decode cX5_wanting 29 = .ok (.iload_n 2, 1) := by decide +kernel
theorem dX5_wanting_30 : decode cX5_wanting 30 = .ok (.iaload, 1) := by decide +kernel
theorem dX5_wanting_31 : decode cX5_wanting 31 = .ok (.ifCond .le 7, 3) := by decide +kernel
theorem dX5_wanting_34 : decode cX5_wanting 34 = .ok (.iconst 1, 1) := by decide +kernel
theorem dX5_wanting_35 : decode cX5_wanting 35 = .ok (.goto 23, 3) := by decide +kernel
theorem dX5_wanting_38 : decode cX5_wanting 38 = .ok (.iconst 0, 1) := by decide +kernel
theorem dX5_wanting_39 : decode cX5_wanting 39 = .ok (.goto 19, 3) := by decide +kernel
theorem dX5_wanting_42 : decode cX5_wanting 42 = .ok (.aload_n 0, 1) := by decide +kernel
theorem dX5_wanting_43 : decode cX5_wanting 43 = .ok (.getfield 23, 3) := by decide +kernel
theorem dX5_wanting_46 : decode cX5_wanting 46 = .ok (.iload_n 2, 1) := by decide +kernel
theorem dX5_wanting_47 : decode cX5_wanting 47 = .ok (.iaload, 1) := by decide +kernel
theorem dX5_wanting_48 : decode cX5_wanting 48 = .ok (.bipush (-6), 2) := by decide +kernel
theorem dX5_wanting_50 : decode cX5_wanting 50 = .ok (.if_icmp .ne 7, 3) := by decide +kernel
theorem dX5_wanting_53 : decode cX5_wanting 53 = .ok (.iconst 1, 1) := by decide +kernel
theorem dX5_wanting_54 : decode cX5_wanting 54 = .ok (.goto 4, 3) := by decide +kernel
theorem dX5_wanting_57 : decode cX5_wanting 57 = .ok (.iconst 0, 1) := by decide +kernel
theorem dX5_wanting_58 : decode cX5_wanting 58 = .ok (.istore_n 3, 1) := by decide +kernel
theorem dX5_wanting_59 : decode cX5_wanting 59 = .ok (.iload_n 3, 1) := by decide +kernel
theorem dX5_wanting_60 : decode cX5_wanting 60 = .ok (.ifCond .eq 19, 3) := by decide +kernel
theorem dX5_wanting_63 : decode cX5_wanting 63 = .ok (.aload_n 0, 1) := by decide +kernel
theorem dX5_wanting_64 : decode cX5_wanting 64 = .ok (.getfield 41, 3) := by decide +kernel
theorem dX5_wanting_67 : decode cX5_wanting 67 = .ok (.bipush 12, 2) := by decide +kernel
theorem dX5_wanting_69 : decode cX5_wanting 69 = .ok (.iload_n 2, 1) := by decide +kernel
theorem dX5_wanting_70 : decode cX5_wanting 70 = .ok (.iadd, 1) := by decide +kernel
theorem dX5_wanting_71 : decode cX5_wanting 71 = .ok (.iaload, 1) := by decide +kernel
theorem dX5_wanting_72 : decode cX5_wanting 72 = .ok (.bipush (-2), 2) := by decide +kernel
theorem dX5_wanting_74 : decode cX5_wanting 74 = .ok (.if_icmp .eq 5, 3) := by decide +kernel
theorem dX5_wanting_77 : decode cX5_wanting 77 = .ok (.iload_n 2, 1) := by decide +kernel
theorem dX5_wanting_78 : decode cX5_wanting 78 = .ok (.ireturn, 1) := by decide +kernel
theorem dX5_wanting_79 : decode cX5_wanting 79 = .ok (.iinc 2 1, 3) := by decide +kernel
theorem dX5_wanting_82 : decode cX5_wanting 82 = .ok (.goto (-80), 3) := by decide +kernel
theorem dX5_wanting_85 : decode cX5_wanting 85 = .ok (.bipush (-6), 2) := by decide +kernel
theorem dX5_wanting_87 : decode cX5_wanting 87 = .ok (.ireturn, 1) := by decide +kernel
theorem dX5_fill_0 : decode cX5_fill 0 = .ok (.iconst 1, 1) := by decide +kernel
theorem dX5_fill_1 : decode cX5_fill 1 = .ok (.istore_n 2, 1) := by decide +kernel
theorem dX5_fill_2 : decode cX5_fill 2 = .ok (.iload_n 2, 1) := by decide +kernel
theorem dX5_fill_3 : decode cX5_fill 3 = .ok (.ifCond .eq 137, 3) := by decide +kernel
theorem dX5_fill_6 : decode cX5_fill 6 = .ok (.aload_n 0, 1) := by decide +kernel
theorem dX5_fill_7 : decode cX5_fill 7 = .ok (.invokevirtual 135, 3) := by decide +kernel
theorem dX5_fill_10 : decode cX5_fill 10 = .ok (.iconst 0, 1) := by decide +kernel
theorem dX5_fill_11 : decode cX5_fill 11 = .ok (.istore_n 3, 1) := by decide +kernel
theorem dX5_fill_12 : decode cX5_fill 12 = .ok (.iload_n 3, 1) := by decide +kernel
theorem dX5_fill_13 : decode cX5_fill 13 = .ok (.aload_n 0, 1) := by decide +kernel
theorem dX5_fill_14 : decode cX5_fill 14 = .ok (.getfield 53, 3) := by decide +kernel
theorem dX5_fill_17 : decode cX5_fill 17 = .ok (.if_icmp .ge 25, 3) := by decide +kernel
theorem dX5_fill_20 : decode cX5_fill 20 = .ok (.aload_n 0, 1) := by decide +kernel
theorem dX5_fill_21 : decode cX5_fill 21 = .ok (.getfield 35, 3) := by decide +kernel
theorem dX5_fill_24 : decode cX5_fill 24 = .ok (.iload_n 3, 1) := by decide +kernel
theorem dX5_fill_25 : decode cX5_fill 25 = .ok (.iaload, 1) := by decide +kernel
theorem dX5_fill_26 : decode cX5_fill 26 = .ok (.ifCond .le 10, 3) := by decide +kernel
theorem dX5_fill_29 : decode cX5_fill 29 = .ok (.aload_n 0, 1) := by decide +kernel
theorem dX5_fill_30 : decode cX5_fill 30 = .ok (.iload_n 3, 1) := by decide +kernel
theorem dX5_fill_31 : decode cX5_fill 31 = .ok (.iconst (-1), 1) := by decide +kernel
theorem dX5_fill_32 : decode cX5_fill 32 = .ok (.iconst (-1), 1) := by decide +kernel
theorem dX5_fill_33 : decode cX5_fill 33 = .ok (.invokevirtual 132, 3) := by decide +kernel
theorem dX5_fill_36 : decode cX5_fill 36 = .ok (.iinc 3 1, 3) := by decide +kernel
theorem dX5_fill_39 : decode cX5_fill 39 = .ok (.goto (-27), 3) := by decide +kernel
theorem dX5_fill_42 : decode cX5_fill 42 = .ok (.aload_n 0, 1) := by decide +kernel
theorem dX5_fill_43 : decode cX5_fill 43 = .ok (.iconst 0, 1) := by decide +kernel
theorem dX5_fill_44 : decode cX5_fill 44 = .ok (.iconst 0, 1) := by decide +kernel
theorem dX5_fill_45 : decode cX5_fill 45 = .ok (.invokevirtual 138, 3) := by decide +kernel
theorem dX5_fill_48 : decode cX5_fill 48 = .ok (.aload_n 0, 1) := by decide +kernel
theorem dX5_fill_49 : decode cX5_fill 49 = .ok (.iload_n 1, 1) := by decide +kernel
theorem dX5_fill_50 : decode cX5_fill 50 = .ok (.invokevirtual 142, 3) := by decide +kernel
theorem dX5_fill_53 : decode cX5_fill 53 = .ok (.istore_n 3, 1) := by decide +kernel
theorem dX5_fill_54 : decode cX5_fill 54 = .ok (.iload_n 3, 1) := by decide +kernel
theorem dX5_fill_55 : decode cX5_fill 55 = .ok (.ifCond .lt 7, 3) := by decide +kernel
theorem dX5_fill_58 : decode cX5_fill 58 = .ok (.iconst 1, 1) := by decide +kernel
theorem dX5_fill_59 : decode cX5_fill 59 = .ok (.goto 4, 3) := by decide +kernel
theorem dX5_fill_62 : decode cX5_fill 62 = .ok (.iconst 0, 1) := by decide +kernel
theorem dX5_fill_63 : decode cX5_fill 63 = .ok (.istore_n 2, 1) := by decide +kernel
theorem dX5_fill_64 : decode cX5_fill 64 = .ok (.iload_n 2, 1) := by decide +kernel
theorem dX5_fill_65 : decode cX5_fill 65 = .ok (.ifCond .eq 72, 3) := by decide +kernel
theorem dX5_fill_68 : decode cX5_fill 68 = .ok (.aload_n 0, 1) := by decide +kernel
theorem dX5_fill_69 : decode cX5_fill 69 = .ok (.bipush 12, 2) := by decide +kernel
theorem dX5_fill_71 : decode cX5_fill 71 = .ok (.iload_n 3, 1) := by decide +kernel
theorem dX5_fill_72 : decode cX5_fill 72 = .ok (.iadd, 1) := by decide +kernel
theorem dX5_fill_73 : decode cX5_fill 73 = .ok (.iload_n 1, 1) := by decide +kernel
theorem dX5_fill_74 : decode cX5_fill 74 = .ok (.ifCond .eq 12, 3) := by decide +kernel
theorem dX5_fill_77 : decode cX5_fill 77 = .ok (.aload_n 0, 1) := by decide +kernel
theorem dX5_fill_78 : decode cX5_fill 78 = .ok (.getfield 38, 3) := by decide +kernel
theorem dX5_fill_81 : decode cX5_fill 81 = .ok (.iload_n 3, 1) := by decide +kernel
theorem dX5_fill_82 : decode cX5_fill 82 = .ok (.iaload, 1) := by decide +kernel
theorem dX5_fill_83 : decode cX5_fill 83 = .ok (.goto 6, 3) := by decide +kernel
theorem dX5_fill_86 : decode cX5_fill 86 = .ok (.sipush 4000, 3) := by decide +kernel
theorem dX5_fill_89 : decode cX5_fill 89 = .ok (.invokevirtual 146, 3) := by decide +kernel
theorem dX5_fill_92 : decode cX5_fill 92 = .ok (.istore 4, 2) := by decide +kernel
theorem dX5_fill_94 : decode cX5_fill 94 = .ok (.aload_n 0, 1) := by decide +kernel
theorem dX5_fill_95 : decode cX5_fill 95 = .ok (.bipush 12, 2) := by decide +kernel
theorem dX5_fill_97 : decode cX5_fill 97 = .ok (.iload_n 3, 1) := by decide +kernel
theorem dX5_fill_98 : decode cX5_fill 98 = .ok (.iadd, 1) := by decide +kernel
theorem dX5_fill_99 : decode cX5_fill 99 = .ok (.iload 4, 2) := by decide +kernel
theorem dX5_fill_101 : decode cX5_fill 101 = .ok (.invokevirtual 149, 3) := by decide +kernel
theorem dX5_fill_104 : decode cX5_fill 104 = .ok (.istore 5, 2) := by decide +kernel
theorem dX5_fill_106 : decode cX5_fill 106 = .ok (.aload_n 0, 1) := by decide +kernel
theorem dX5_fill_107 : decode cX5_fill 107 = .ok (.getfield 35, 3) := by decide +kernel
theorem dX5_fill_110 : decode cX5_fill 110 = .ok (.iload 5, 2) := by decide +kernel
theorem dX5_fill_112 : decode cX5_fill 112 = .ok (.dup2, 1) := by decide +kernel
theorem dX5_fill_113 : decode cX5_fill 113 = .ok (.iaload, 1) := by decide +kernel
theorem dX5_fill_114 : decode cX5_fill 114 = .ok (.iload 4, 2) := by decide +kernel
theorem dX5_fill_116 : decode cX5_fill 116 = .ok (.isub, 1) := by decide +kernel
theorem dX5_fill_117 : decode cX5_fill 117 = .ok (.iastore, 1) := by decide +kernel
theorem dX5_fill_118 : decode cX5_fill 118 = .ok (.aload_n 0, 1) := by decide +kernel
theorem dX5_fill_119 : decode cX5_fill 119 = .ok (.getfield 38, 3) := by decide +kernel
theorem dX5_fill_122 : decode cX5_fill 122 = .ok (.iload_n 3, 1) := by decide +kernel
theorem dX5_fill_123 : decode cX5_fill 123 = .ok (.dup2, 1) := by decide +kernel
theorem dX5_fill_124 : decode cX5_fill 124 = .ok (.iaload, 1) := by decide +kernel
theorem dX5_fill_125 : decode cX5_fill 125 = .ok (.iload_n 1, 1) := by decide +kernel
theorem dX5_fill_126 : decode cX5_fill 126 = .ok (.ifCond .eq 8, 3) := by decide +kernel
theorem dX5_fill_129 : decode cX5_fill 129 = .ok (.iload 4, 2) := by decide +kernel
theorem dX5_fill_131 : decode cX5_fill 131 = .ok (.goto 4, 3) := by decide +kernel
theorem dX5_fill_134 : decode cX5_fill 134 = .ok (.iconst 0, 1) := by decide +kernel
theorem dX5_fill_135 : decode cX5_fill 135 = .ok (.isub, 1) := by decide +kernel
theorem dX5_fill_136 : decode cX5_fill 136 = .ok (.iastore, 1) := by decide +kernel
theorem dX5_fill_137 : decode cX5_fill 137 = .ok (.goto (-135), 3) := by decide +kernel
theorem dX5_fill_140 : decode cX5_fill 140 = .ok (.return_, 1) := by decide +kernel
theorem dX5_canWith_0 : decode cX5_canWith 0 = .ok (.iconst 1, 1) := by decide +kernel
theorem dX5_canWith_1 : decode cX5_canWith 1 = .ok (.istore_n 2, 1) := by decide +kernel
theorem dX5_canWith_2 : decode cX5_canWith 2 = .ok (.iconst 0, 1) := by decide +kernel
theorem dX5_canWith_3 : decode cX5_canWith 3 = .ok (.istore_n 3, 1) := by decide +kernel
theorem dX5_canWith_4 : decode cX5_canWith 4 = .ok (.iload_n 3, 1) := by decide +kernel
theorem dX5_canWith_5 : decode cX5_canWith 5 = .ok (.bipush 36, 2) := by decide +kernel
theorem dX5_canWith_7 : decode cX5_canWith 7 = .ok (.if_icmp .ge 16, 3) := by decide +kernel
theorem dX5_canWith_10 : decode cX5_canWith 10 = .ok (.aload_n 0, 1) := by decide +kernel
theorem dX5_canWith_11 : decode cX5_canWith 11 = .ok (.getfield 26, 3) := by decide +kernel
theorem dX5_canWith_14 : decode cX5_canWith 14 = .ok (.iload_n 3, 1) := by decide +kernel
theorem dX5_canWith_15 : decode cX5_canWith 15 = .ok (.iconst 0, 1) := by decide +kernel
theorem dX5_canWith_16 : decode cX5_canWith 16 = .ok (.iastore, 1) := by decide +kernel
theorem dX5_canWith_17 : decode cX5_canWith 17 = .ok (.iinc 3 1, 3) := by decide +kernel
theorem dX5_canWith_20 : decode cX5_canWith 20 = .ok (.goto (-16), 3) := by decide +kernel
theorem dX5_canWith_23 : decode cX5_canWith 23 = .ok (.iconst 0, 1) := by decide +kernel
theorem dX5_canWith_24 : decode cX5_canWith 24 = .ok (.istore_n 3, 1) := by decide +kernel
theorem dX5_canWith_25 : decode cX5_canWith 25 = .ok (.iload_n 3, 1) := by decide +kernel
theorem dX5_canWith_26 : decode cX5_canWith 26 = .ok (.aload_n 0, 1) := by decide +kernel
theorem dX5_canWith_27 : decode cX5_canWith 27 = .ok (.getfield 53, 3) := by decide +kernel
theorem dX5_canWith_30 : decode cX5_canWith 30 = .ok (.if_icmp .ge 23, 3) := by decide +kernel
theorem dX5_canWith_33 : decode cX5_canWith 33 = .ok (.aload_n 0, 1) := by decide +kernel
theorem dX5_canWith_34 : decode cX5_canWith 34 = .ok (.getfield 35, 3) := by decide +kernel
theorem dX5_canWith_37 : decode cX5_canWith 37 = .ok (.iload_n 3, 1) := by decide +kernel
theorem dX5_canWith_38 : decode cX5_canWith 38 = .ok (.aload_n 0, 1) := by decide +kernel
theorem dX5_canWith_39 : decode cX5_canWith 39 = .ok (.getfield 17, 3) := by decide +kernel
theorem dX5_canWith_42 : decode cX5_canWith 42 = .ok (.iconst 3, 1) := by decide +kernel
theorem dX5_canWith_43 : decode cX5_canWith 43 = .ok (.iload_n 1, 1) := by decide +kernel
theorem dX5_canWith_44 : decode cX5_canWith 44 = .ok (.imul, 1) := by decide +kernel
theorem dX5_canWith_45 : decode cX5_canWith 45 = .ok (.isub, 1) := by decide +kernel
theorem dX5_canWith_46 : decode cX5_canWith 46 = .ok (.iastore, 1) := by decide +kernel
theorem dX5_canWith_47 : decode cX5_canWith 47 = .ok (.iinc 3 1, 3) := by decide +kernel
theorem dX5_canWith_50 : decode cX5_canWith 50 = .ok (.goto (-25), 3) := by decide +kernel
theorem dX5_canWith_53 : decode cX5_canWith 53 = .ok (.iconst 0, 1) := by decide +kernel
theorem dX5_canWith_54 : decode cX5_canWith 54 = .ok (.istore_n 3, 1) := by decide +kernel
theorem dX5_canWith_55 : decode cX5_canWith 55 = .ok (.iload_n 3, 1) := by decide +kernel
theorem dX5_canWith_56 : decode cX5_canWith 56 = .ok (.aload_n 0, 1) := by decide +kernel
theorem dX5_canWith_57 : decode cX5_canWith 57 = .ok (.getfield 7, 3) := by decide +kernel
theorem dX5_canWith_60 : decode cX5_canWith 60 = .ok (.if_icmp .ge 63, 3) := by decide +kernel
theorem dX5_canWith_63 : decode cX5_canWith 63 = .ok (.aload_n 0, 1) := by decide +kernel
theorem dX5_canWith_64 : decode cX5_canWith 64 = .ok (.getfield 38, 3) := by decide +kernel
theorem dX5_canWith_67 : decode cX5_canWith 67 = .ok (.iload_n 3, 1) := by decide +kernel
theorem dX5_canWith_68 : decode cX5_canWith 68 = .ok (.aload_n 0, 1) := by decide +kernel
theorem dX5_canWith_69 : decode cX5_canWith 69 = .ok (.getfield 23, 3) := by decide +kernel
theorem dX5_canWith_72 : decode cX5_canWith 72 = .ok (.iload_n 3, 1) := by decide +kernel
theorem dX5_canWith_73 : decode cX5_canWith 73 = .ok (.iaload, 1) := by decide +kernel
theorem dX5_canWith_74 : decode cX5_canWith 74 = .ok (.bipush (-6), 2) := by decide +kernel
theorem dX5_canWith_76 : decode cX5_canWith 76 = .ok (.if_icmp .ne 7, 3) := by decide +kernel
theorem dX5_canWith_79 : decode cX5_canWith 79 = .ok (.iconst 0, 1) := by decide +kernel
theorem dX5_canWith_80 : decode cX5_canWith 80 = .ok (.goto 17, 3) := by decide +kernel
theorem dX5_canWith_83 : decode cX5_canWith 83 = .ok (.aload_n 0, 1) := by decide +kernel
theorem dX5_canWith_84 : decode cX5_canWith 84 = .ok (.getfield 23, 3) := by decide +kernel
theorem dX5_canWith_87 : decode cX5_canWith 87 = .ok (.iload_n 3, 1) := by decide +kernel
theorem dX5_canWith_88 : decode cX5_canWith 88 = .ok (.iaload, 1) := by decide +kernel
theorem dX5_canWith_89 : decode cX5_canWith 89 = .ok (.iload_n 1, 1) := by decide +kernel
theorem dX5_canWith_90 : decode cX5_canWith 90 = .ok (.aload_n 0, 1) := by decide +kernel
theorem dX5_canWith_91 : decode cX5_canWith 91 = .ok (.iload_n 3, 1) := by decide +kernel
theorem dX5_canWith_92 : decode cX5_canWith 92 = .ok (.invokevirtual 113, 3) := by decide +kernel
theorem dX5_canWith_95 : decode cX5_canWith 95 = .ok (.imul, 1) := by decide +kernel
theorem dX5_canWith_96 : decode cX5_canWith 96 = .ok (.isub, 1) := by decide +kernel
theorem dX5_canWith_97 : decode cX5_canWith 97 = .ok (.iastore, 1) := by decide +kernel
theorem dX5_canWith_98 : decode cX5_canWith 98 = .ok (.iload_n 2, 1) := by decide +kernel
theorem dX5_canWith_99 : decode cX5_canWith 99 = .ok (.ifCond .eq 16, 3) := by decide +kernel
theorem dX5_canWith_102 : decode cX5_canWith 102 = .ok (.aload_n 0, 1) := by decide +kernel
theorem dX5_canWith_103 : decode cX5_canWith 103 = .ok (.getfield 38, 3) := by decide +kernel
theorem dX5_canWith_106 : decode cX5_canWith 106 = .ok (.iload_n 3, 1) := by decide +kernel
theorem dX5_canWith_107 : decode cX5_canWith 107 = .ok (.iaload, 1) := by decide +kernel
theorem dX5_canWith_108 : decode cX5_canWith 108 = .ok (.ifCond .lt 7, 3) := by decide +kernel
theorem dX5_canWith_111 : decode cX5_canWith 111 = .ok (.iconst 1, 1) := by decide +kernel
theorem dX5_canWith_112 : decode cX5_canWith 112 = .ok (.goto 4, 3) := by decide +kernel
theorem dX5_canWith_115 : decode cX5_canWith 115 = .ok (.iconst 0, 1) := by decide +kernel
theorem dX5_canWith_116 : decode cX5_canWith 116 = .ok (.istore_n 2, 1) := by decide +kernel
theorem dX5_canWith_117 : decode cX5_canWith 117 = .ok (.iinc 3 1, 3) := by decide +kernel
theorem dX5_canWith_120 : decode cX5_canWith 120 = .ok (.goto (-65), 3) := by decide +kernel
theorem dX5_canWith_123 : decode cX5_canWith 123 = .ok (.iload_n 2, 1) := by decide +kernel
theorem dX5_canWith_124 : decode cX5_canWith 124 = .ok (.ifCond .ne 5, 3) := by decide +kernel
theorem dX5_canWith_127 : decode cX5_canWith 127 = .ok (.iconst 0, 1) := by decide +kernel
theorem dX5_canWith_128 : decode cX5_canWith 128 = .ok (.ireturn, 1) := by decide +kernel
theorem dX5_canWith_129 : decode cX5_canWith 129 = .ok (.aload_n 0, 1) := by decide +kernel
theorem dX5_canWith_130 : decode cX5_canWith 130 = .ok (.iconst 1, 1) := by decide +kernel
theorem dX5_canWith_131 : decode cX5_canWith 131 = .ok (.invokevirtual 152, 3) := by decide +kernel
theorem dX5_canWith_134 : decode cX5_canWith 134 = .ok (.aload_n 0, 1) := by decide +kernel
theorem dX5_canWith_135 : decode cX5_canWith 135 = .ok (.iconst 0, 1) := by decide +kernel
theorem dX5_canWith_136 : decode cX5_canWith 136 = .ok (.invokevirtual 152, 3) := by decide +kernel
theorem dX5_canWith_139 : decode cX5_canWith 139 = .ok (.iconst 0, 1) := by decide +kernel
theorem dX5_canWith_140 : decode cX5_canWith 140 = .ok (.istore_n 3, 1) := by decide +kernel
theorem dX5_canWith_141 : decode cX5_canWith 141 = .ok (.iload_n 3, 1) := by decide +kernel
theorem dX5_canWith_142 : decode cX5_canWith 142 = .ok (.aload_n 0, 1) := by decide +kernel
theorem dX5_canWith_143 : decode cX5_canWith 143 = .ok (.getfield 53, 3) := by decide +kernel
theorem dX5_canWith_146 : decode cX5_canWith 146 = .ok (.if_icmp .ge 28, 3) := by decide +kernel
theorem dX5_canWith_149 : decode cX5_canWith 149 = .ok (.iload_n 2, 1) := by decide +kernel
theorem dX5_canWith_150 : decode cX5_canWith 150 = .ok (.ifCond .eq 16, 3) := by decide +kernel
theorem dX5_canWith_153 : decode cX5_canWith 153 = .ok (.aload_n 0, 1) := by decide +kernel
theorem dX5_canWith_154 : decode cX5_canWith 154 = .ok (.getfield 35, 3) := by decide +kernel
theorem dX5_canWith_157 : decode cX5_canWith 157 = .ok (.iload_n 3, 1) := by decide +kernel
theorem dX5_canWith_158 : decode cX5_canWith 158 = .ok (.iaload, 1) := by decide +kernel
theorem dX5_canWith_159 : decode cX5_canWith 159 = .ok (.ifCond .ne 7, 3) := by decide +kernel
theorem dX5_canWith_162 : decode cX5_canWith 162 = .ok (.iconst 1, 1) := by decide +kernel
theorem dX5_canWith_163 : decode cX5_canWith 163 = .ok (.goto 4, 3) := by decide +kernel
theorem dX5_canWith_166 : decode cX5_canWith 166 = .ok (.iconst 0, 1) := by decide +kernel
theorem dX5_canWith_167 : decode cX5_canWith 167 = .ok (.istore_n 2, 1) := by decide +kernel
theorem dX5_canWith_168 : decode cX5_canWith 168 = .ok (.iinc 3 1, 3) := by decide +kernel
theorem dX5_canWith_171 : decode cX5_canWith 171 = .ok (.goto (-30), 3) := by decide +kernel
theorem dX5_canWith_174 : decode cX5_canWith 174 = .ok (.iconst 0, 1) := by decide +kernel
theorem dX5_canWith_175 : decode cX5_canWith 175 = .ok (.istore_n 3, 1) := by decide +kernel
theorem dX5_canWith_176 : decode cX5_canWith 176 = .ok (.iload_n 3, 1) := by decide +kernel
theorem dX5_canWith_177 : decode cX5_canWith 177 = .ok (.aload_n 0, 1) := by decide +kernel
theorem dX5_canWith_178 : decode cX5_canWith 178 = .ok (.getfield 7, 3) := by decide +kernel
theorem dX5_canWith_181 : decode cX5_canWith 181 = .ok (.if_icmp .ge 28, 3) := by decide +kernel
theorem dX5_canWith_184 : decode cX5_canWith 184 = .ok (.iload_n 2, 1) := by decide +kernel
theorem dX5_canWith_185 : decode cX5_canWith 185 = .ok (.ifCond .eq 16, 3) := by decide +kernel
theorem dX5_canWith_188 : decode cX5_canWith 188 = .ok (.aload_n 0, 1) := by decide +kernel
theorem dX5_canWith_189 : decode cX5_canWith 189 = .ok (.getfield 38, 3) := by decide +kernel
theorem dX5_canWith_192 : decode cX5_canWith 192 = .ok (.iload_n 3, 1) := by decide +kernel
theorem dX5_canWith_193 : decode cX5_canWith 193 = .ok (.iaload, 1) := by decide +kernel
theorem dX5_canWith_194 : decode cX5_canWith 194 = .ok (.ifCond .ne 7, 3) := by decide +kernel
theorem dX5_canWith_197 : decode cX5_canWith 197 = .ok (.iconst 1, 1) := by decide +kernel
theorem dX5_canWith_198 : decode cX5_canWith 198 = .ok (.goto 4, 3) := by decide +kernel
theorem dX5_canWith_201 : decode cX5_canWith 201 = .ok (.iconst 0, 1) := by decide +kernel
theorem dX5_canWith_202 : decode cX5_canWith 202 = .ok (.istore_n 2, 1) := by decide +kernel
theorem dX5_canWith_203 : decode cX5_canWith 203 = .ok (.iinc 3 1, 3) := by decide +kernel
theorem dX5_canWith_206 : decode cX5_canWith 206 = .ok (.goto (-30), 3) := by decide +kernel
theorem dX5_canWith_209 : decode cX5_canWith 209 = .ok (.iload_n 2, 1) := by decide +kernel
theorem dX5_canWith_210 : decode cX5_canWith 210 = .ok (.ireturn, 1) := by decide +kernel
theorem dX5_lower_0 : decode cX5_lower 0 = .ok (.aload_n 0, 1) := by decide +kernel
theorem dX5_lower_1 : decode cX5_lower 1 = .ok (.getfield 26, 3) := by decide +kernel
theorem dX5_lower_4 : decode cX5_lower 4 = .ok (.iload_n 1, 1) := by decide +kernel
theorem dX5_lower_5 : decode cX5_lower 5 = .ok (.iaload, 1) := by decide +kernel
theorem dX5_lower_6 : decode cX5_lower 6 = .ok (.ifCond .le 7, 3) := by decide +kernel
theorem dX5_lower_9 : decode cX5_lower 9 = .ok (.iconst 1, 1) := by decide +kernel
theorem dX5_lower_10 : decode cX5_lower 10 = .ok (.goto 4, 3) := by decide +kernel
theorem dX5_lower_13 : decode cX5_lower 13 = .ok (.iconst 0, 1) := by decide +kernel
theorem dX5_lower_14 : decode cX5_lower 14 = .ok (.istore_n 2, 1) := by decide +kernel
theorem dX5_lower_15 : decode cX5_lower 15 = .ok (.iload_n 2, 1) := by decide +kernel
theorem dX5_lower_16 : decode cX5_lower 16 = .ok (.ifCond .eq 111, 3) := by decide +kernel
theorem dX5_lower_19 : decode cX5_lower 19 = .ok (.aload_n 0, 1) := by decide +kernel
theorem dX5_lower_20 : decode cX5_lower 20 = .ok (.invokevirtual 135, 3) := by decide +kernel
theorem dX5_lower_23 : decode cX5_lower 23 = .ok (.aload_n 0, 1) := by decide +kernel
theorem dX5_lower_24 : decode cX5_lower 24 = .ok (.iload_n 1, 1) := by decide +kernel
theorem dX5_lower_25 : decode cX5_lower 25 = .ok (.iconst 3, 1) := by decide +kernel
theorem dX5_lower_26 : decode cX5_lower 26 = .ok (.idiv, 1) := by decide +kernel
theorem dX5_lower_27 : decode cX5_lower 27 = .ok (.iconst (-1), 1) := by decide +kernel
theorem dX5_lower_28 : decode cX5_lower 28 = .ok (.iconst (-1), 1) := by decide +kernel
theorem dX5_lower_29 : decode cX5_lower 29 = .ok (.invokevirtual 132, 3) := by decide +kernel
theorem dX5_lower_32 : decode cX5_lower 32 = .ok (.aload_n 0, 1) := by decide +kernel
theorem dX5_lower_33 : decode cX5_lower 33 = .ok (.iload_n 1, 1) := by decide +kernel
theorem dX5_lower_34 : decode cX5_lower 34 = .ok (.iconst 1, 1) := by decide +kernel
theorem dX5_lower_35 : decode cX5_lower 35 = .ok (.iadd, 1) := by decide +kernel
theorem dX5_lower_36 : decode cX5_lower 36 = .ok (.iconst 1, 1) := by decide +kernel
theorem dX5_lower_37 : decode cX5_lower 37 = .ok (.invokevirtual 138, 3) := by decide +kernel
theorem dX5_lower_40 : decode cX5_lower 40 = .ok (.bipush 12, 2) := by decide +kernel
theorem dX5_lower_42 : decode cX5_lower 42 = .ok (.aload_n 0, 1) := by decide +kernel
theorem dX5_lower_43 : decode cX5_lower 43 = .ok (.getfield 13, 3) := by decide +kernel
theorem dX5_lower_46 : decode cX5_lower 46 = .ok (.iload_n 1, 1) := by decide +kernel
theorem dX5_lower_47 : decode cX5_lower 47 = .ok (.iaload, 1) := by decide +kernel
theorem dX5_lower_48 : decode cX5_lower 48 = .ok (.iadd, 1) := by decide +kernel
theorem dX5_lower_49 : decode cX5_lower 49 = .ok (.istore_n 3, 1) := by decide +kernel
theorem dX5_lower_50 : decode cX5_lower 50 = .ok (.aload_n 0, 1) := by decide +kernel
theorem dX5_lower_51 : decode cX5_lower 51 = .ok (.getfield 41, 3) := by decide +kernel
theorem dX5_lower_54 : decode cX5_lower 54 = .ok (.iload_n 3, 1) := by decide +kernel
theorem dX5_lower_55 : decode cX5_lower 55 = .ok (.iaload, 1) := by decide +kernel
theorem dX5_lower_56 : decode cX5_lower 56 = .ok (.bipush (-2), 2) := by decide +kernel
theorem dX5_lower_58 : decode cX5_lower 58 = .ok (.if_icmp .eq 7, 3) := by decide +kernel
theorem dX5_lower_61 : decode cX5_lower 61 = .ok (.iconst 1, 1) := by decide +kernel
theorem dX5_lower_62 : decode cX5_lower 62 = .ok (.goto 4, 3) := by decide +kernel
theorem dX5_lower_65 : decode cX5_lower 65 = .ok (.iconst 0, 1) := by decide +kernel
theorem dX5_lower_66 : decode cX5_lower 66 = .ok (.istore_n 2, 1) := by decide +kernel
theorem dX5_lower_67 : decode cX5_lower 67 = .ok (.iload_n 2, 1) := by decide +kernel
theorem dX5_lower_68 : decode cX5_lower 68 = .ok (.ifCond .eq 56, 3) := by decide +kernel
theorem dX5_lower_71 : decode cX5_lower 71 = .ok (.aload_n 0, 1) := by decide +kernel
theorem dX5_lower_72 : decode cX5_lower 72 = .ok (.iload_n 3, 1) := by decide +kernel
theorem dX5_lower_73 : decode cX5_lower 73 = .ok (.aload_n 0, 1) := by decide +kernel
theorem dX5_lower_74 : decode cX5_lower 74 = .ok (.getfield 26, 3) := by decide +kernel
theorem dX5_lower_77 : decode cX5_lower 77 = .ok (.iload_n 1, 1) := by decide +kernel
theorem dX5_lower_78 : decode cX5_lower 78 = .ok (.iaload, 1) := by decide +kernel
theorem dX5_lower_79 : decode cX5_lower 79 = .ok (.invokevirtual 146, 3) := by decide +kernel
theorem dX5_lower_82 : decode cX5_lower 82 = .ok (.istore 4, 2) := by decide +kernel
theorem dX5_lower_84 : decode cX5_lower 84 = .ok (.aload_n 0, 1) := by decide +kernel
theorem dX5_lower_85 : decode cX5_lower 85 = .ok (.iload_n 3, 1) := by decide +kernel
theorem dX5_lower_86 : decode cX5_lower 86 = .ok (.iload 4, 2) := by decide +kernel
theorem dX5_lower_88 : decode cX5_lower 88 = .ok (.invokevirtual 149, 3) := by decide +kernel
theorem dX5_lower_91 : decode cX5_lower 91 = .ok (.istore 5, 2) := by decide +kernel
theorem dX5_lower_93 : decode cX5_lower 93 = .ok (.aload_n 0, 1) := by decide +kernel
theorem dX5_lower_94 : decode cX5_lower 94 = .ok (.getfield 26, 3) := by decide +kernel
theorem dX5_lower_97 : decode cX5_lower 97 = .ok (.iload_n 1, 1) := by decide +kernel
theorem dX5_lower_98 : decode cX5_lower 98 = .ok (.dup2, 1) := by decide +kernel
theorem dX5_lower_99 : decode cX5_lower 99 = .ok (.iaload, 1) := by decide +kernel
theorem dX5_lower_100 : decode cX5_lower 100 = .ok (.iload 4, 2) := by decide +kernel
theorem dX5_lower_102 : decode cX5_lower 102 = .ok (.isub, 1) := by decide +kernel
theorem dX5_lower_103 : decode cX5_lower 103 = .ok (.iastore, 1) := by decide +kernel
theorem dX5_lower_104 : decode cX5_lower 104 = .ok (.aload_n 0, 1) := by decide +kernel
theorem dX5_lower_105 : decode cX5_lower 105 = .ok (.getfield 26, 3) := by decide +kernel
theorem dX5_lower_108 : decode cX5_lower 108 = .ok (.iload_n 1, 1) := by decide +kernel
theorem dX5_lower_109 : decode cX5_lower 109 = .ok (.iaload, 1) := by decide +kernel
theorem dX5_lower_110 : decode cX5_lower 110 = .ok (.ifCond .le 12, 3) := by decide +kernel
theorem dX5_lower_113 : decode cX5_lower 113 = .ok (.iload 5, 2) := by decide +kernel
theorem dX5_lower_115 : decode cX5_lower 115 = .ok (.ifCond .lt 7, 3) := by decide +kernel
theorem dX5_lower_118 : decode cX5_lower 118 = .ok (.iconst 1, 1) := by decide +kernel
theorem dX5_lower_119 : decode cX5_lower 119 = .ok (.goto 4, 3) := by decide +kernel
theorem dX5_lower_122 : decode cX5_lower 122 = .ok (.iconst 0, 1) := by decide +kernel
theorem dX5_lower_123 : decode cX5_lower 123 = .ok (.istore_n 2, 1) := by decide +kernel
theorem dX5_lower_124 : decode cX5_lower 124 = .ok (.goto (-109), 3) := by decide +kernel
theorem dX5_lower_127 : decode cX5_lower 127 = .ok (.return_, 1) := by decide +kernel
theorem dX5_hasRow_0 : decode cX5_hasRow 0 = .ok (.aload_n 0, 1) := by decide +kernel
theorem dX5_hasRow_1 : decode cX5_hasRow 1 = .ok (.getfield 62, 3) := by decide +kernel
theorem dX5_hasRow_4 : decode cX5_hasRow 4 = .ok (.ifCond .ne 50, 3) := by decide +kernel
theorem dX5_hasRow_7 : decode cX5_hasRow 7 = .ok (.aload_n 0, 1) := by decide +kernel
theorem dX5_hasRow_8 : decode cX5_hasRow 8 = .ok (.aload_n 0, 1) := by decide +kernel
theorem dX5_hasRow_9 : decode cX5_hasRow 9 = .ok (.aload_n 0, 1) := by decide +kernel
theorem dX5_hasRow_10 : decode cX5_hasRow 10 = .ok (.getfield 20, 3) := by decide +kernel
theorem dX5_hasRow_13 : decode cX5_hasRow 13 = .ok (.invokevirtual 156, 3) := by decide +kernel
theorem dX5_hasRow_16 : decode cX5_hasRow 16 = .ok (.putfield 159, 3) := by decide +kernel
theorem dX5_hasRow_19 : decode cX5_hasRow 19 = .ok (.iconst 0, 1) := by decide +kernel
theorem dX5_hasRow_20 : decode cX5_hasRow 20 = .ok (.istore_n 1, 1) := by decide +kernel
theorem dX5_hasRow_21 : decode cX5_hasRow 21 = .ok (.iload_n 1, 1) := by decide +kernel
theorem dX5_hasRow_22 : decode cX5_hasRow 22 = .ok (.iconst 3, 1) := by decide +kernel
theorem dX5_hasRow_23 : decode cX5_hasRow 23 = .ok (.aload_n 0, 1) := by decide +kernel
theorem dX5_hasRow_24 : decode cX5_hasRow 24 = .ok (.getfield 53, 3) := by decide +kernel
theorem dX5_hasRow_27 : decode cX5_hasRow 27 = .ok (.imul, 1) := by decide +kernel
theorem dX5_hasRow_28 : decode cX5_hasRow 28 = .ok (.if_icmp .ge 21, 3) := by decide +kernel
theorem dX5_hasRow_31 : decode cX5_hasRow 31 = .ok (.aload_n 0, 1) := by decide +kernel
theorem dX5_hasRow_32 : decode cX5_hasRow 32 = .ok (.getfield 159, 3) := by decide +kernel
theorem dX5_hasRow_35 : decode cX5_hasRow 35 = .ok (.ifCond .eq 14, 3) := by decide +kernel
theorem dX5_hasRow_38 : decode cX5_hasRow 38 = .ok (.aload_n 0, 1) := by decide +kernel
theorem dX5_hasRow_39 : decode cX5_hasRow 39 = .ok (.iload_n 1, 1) := by decide +kernel
theorem dX5_hasRow_40 : decode cX5_hasRow 40 = .ok (.invokevirtual 162, 3) := by decide +kernel
theorem dX5_hasRow_43 : decode cX5_hasRow 43 = .ok (.iinc 1 1, 3) := by decide +kernel
theorem dX5_hasRow_46 : decode cX5_hasRow 46 = .ok (.goto (-25), 3) := by decide +kernel
theorem dX5_hasRow_49 : decode cX5_hasRow 49 = .ok (.aload_n 0, 1) := by decide +kernel
theorem dX5_hasRow_50 : decode cX5_hasRow 50 = .ok (.iconst 1, 1) := by decide +kernel
theorem dX5_hasRow_51 : decode cX5_hasRow 51 = .ok (.putfield 62, 3) := by decide +kernel
theorem dX5_hasRow_54 : decode cX5_hasRow 54 = .ok (.aload_n 0, 1) := by decide +kernel
theorem dX5_hasRow_55 : decode cX5_hasRow 55 = .ok (.getfield 159, 3) := by decide +kernel
theorem dX5_hasRow_58 : decode cX5_hasRow 58 = .ok (.ireturn, 1) := by decide +kernel
theorem dX5_can_0 : decode cX5_can 0 = .ok (.aload_n 0, 1) := by decide +kernel
theorem dX5_can_1 : decode cX5_can 1 = .ok (.invokevirtual 109, 3) := by decide +kernel
theorem dX5_can_4 : decode cX5_can 4 = .ok (.ifCond .eq 7, 3) := by decide +kernel
theorem dX5_can_7 : decode cX5_can 7 = .ok (.iconst 1, 1) := by decide +kernel
theorem dX5_can_8 : decode cX5_can 8 = .ok (.goto 4, 3) := by decide +kernel
theorem dX5_can_11 : decode cX5_can 11 = .ok (.iconst 0, 1) := by decide +kernel
theorem dX5_can_12 : decode cX5_can 12 = .ok (.ireturn, 1) := by decide +kernel
theorem dX5_angle_0 : decode cX5_angle 0 = .ok (.iload_n 1, 1) := by decide +kernel
theorem dX5_angle_1 : decode cX5_angle 1 = .ok (.iconst 0, 1) := by decide +kernel
theorem dX5_angle_2 : decode cX5_angle 2 = .ok (.iconst 3, 1) := by decide +kernel
theorem dX5_angle_3 : decode cX5_angle 3 = .ok (.aload_n 0, 1) := by decide +kernel
theorem dX5_angle_4 : decode cX5_angle 4 = .ok (.getfield 53, 3) := by decide +kernel
theorem dX5_angle_7 : decode cX5_angle 7 = .ok (.imul, 1) := by decide +kernel
theorem dX5_angle_8 : decode cX5_angle 8 = .ok (.iconst 1, 1) := by decide +kernel
theorem dX5_angle_9 : decode cX5_angle 9 = .ok (.isub, 1) := by decide +kernel
theorem dX5_angle_10 : decode cX5_angle 10 = .ok (.invokestatic 66, 3) := by decide +kernel
theorem dX5_angle_13 : decode cX5_angle 13 = .ok (.ifCond .ne 5, 3) := by decide +kernel
theorem dX5_angle_16 : decode cX5_angle 16 = .ok (.iconst (-1), 1) := by decide +kernel
theorem dX5_angle_17 : decode cX5_angle 17 = .ok (.ireturn, 1) := by decide +kernel
theorem dX5_angle_18 : decode cX5_angle 18 = .ok (.aload_n 0, 1) := by decide +kernel
theorem dX5_angle_19 : decode cX5_angle 19 = .ok (.invokevirtual 109, 3) := by decide +kernel
theorem dX5_angle_22 : decode cX5_angle 22 = .ok (.ifCond .eq 17, 3) := by decide +kernel
theorem dX5_angle_25 : decode cX5_angle 25 = .ok (.aload_n 0, 1) := by decide +kernel
theorem dX5_angle_26 : decode cX5_angle 26 = .ok (.getfield 20, 3) := by decide +kernel
theorem dX5_angle_29 : decode cX5_angle 29 = .ok (.aload_n 0, 1) := by decide +kernel
theorem dX5_angle_30 : decode cX5_angle 30 = .ok (.getfield 26, 3) := by decide +kernel
theorem dX5_angle_33 : decode cX5_angle 33 = .ok (.iload_n 1, 1) := by decide +kernel
theorem dX5_angle_34 : decode cX5_angle 34 = .ok (.iaload, 1) := by decide +kernel
theorem dX5_angle_35 : decode cX5_angle 35 = .ok (.iadd, 1) := by decide +kernel
theorem dX5_angle_36 : decode cX5_angle 36 = .ok (.goto 5, 3) := by decide +kernel
theorem dX5_angle_39 : decode cX5_angle 39 = .ok (.bipush (-6), 2) := by decide +kernel
theorem dX5_angle_41 : decode cX5_angle 41 = .ok (.ireturn, 1) := by decide +kernel
theorem dX5_best_0 : decode cX5_best 0 = .ok (.aload_n 0, 1) := by decide +kernel
theorem dX5_best_1 : decode cX5_best 1 = .ok (.iconst 0, 1) := by decide +kernel
theorem dX5_best_2 : decode cX5_best 2 = .ok (.putfield 62, 3) := by decide +kernel
theorem dX5_best_5 : decode cX5_best 5 = .ok (.bipush 60, 2) := by decide +kernel
theorem dX5_best_7 : decode cX5_best 7 = .ok (.istore_n 1, 1) := by decide +kernel
theorem dX5_best_8 : decode cX5_best 8 = .ok (.iload_n 1, 1) := by decide +kernel
theorem dX5_best_9 : decode cX5_best 9 = .ok (.iconst 1, 1) := by decide +kernel
theorem dX5_best_10 : decode cX5_best 10 = .ok (.if_icmp .lt 29, 3) := by decide +kernel
theorem dX5_best_13 : decode cX5_best 13 = .ok (.iconst 3, 1) := by decide +kernel
theorem dX5_best_14 : decode cX5_best 14 = .ok (.iload_n 1, 1) := by decide +kernel
theorem dX5_best_15 : decode cX5_best 15 = .ok (.imul, 1) := by decide +kernel
theorem dX5_best_16 : decode cX5_best 16 = .ok (.aload_n 0, 1) := by decide +kernel
theorem dX5_best_17 : decode cX5_best 17 = .ok (.getfield 17, 3) := by decide +kernel
theorem dX5_best_20 : decode cX5_best 20 = .ok (.if_icmp .gt 13, 3) := by decide +kernel
theorem dX5_best_23 : decode cX5_best 23 = .ok (.aload_n 0, 1) := by decide +kernel
theorem dX5_best_24 : decode cX5_best 24 = .ok (.iload_n 1, 1) := by decide +kernel
theorem dX5_best_25 : decode cX5_best 25 = .ok (.invokevirtual 156, 3) := by decide +kernel
theorem dX5_best_28 : decode cX5_best 28 = .ok (.ifCond .eq 5, 3) := by decide +kernel
theorem dX5_best_31 : decode cX5_best 31 = .ok (.iload_n 1, 1) := by decide +kernel
theorem dX5_best_32 : decode cX5_best 32 = .ok (.ireturn, 1) := by decide +kernel
theorem dX5_best_33 : decode cX5_best 33 = .ok (.iinc 1 (-1), 3) := by decide +kernel
theorem dX5_best_36 : decode cX5_best 36 = .ok (.goto (-28), 3) := by decide +kernel
theorem dX5_best_39 : decode cX5_best 39 = .ok (.bipush (-6), 2) := by decide +kernel
theorem dX5_best_41 : decode cX5_best 41 = .ok (.ireturn, 1) := by decide +kernel
theorem dX5_bits_0 : decode cX5_bits 0 = .ok (.iconst 0, 1) := by decide +kernel
theorem dX5_bits_1 : decode cX5_bits 1 = .ok (.istore_n 1, 1) := by decide +kernel
theorem dX5_bits_2 : decode cX5_bits 2 = .ok (.iconst 0, 1) := by decide +kernel
theorem dX5_bits_3 : decode cX5_bits 3 = .ok (.istore_n 2, 1) := by decide +kernel
theorem dX5_bits_4 : decode cX5_bits 4 = .ok (.iload_n 2, 1) := by decide +kernel
theorem dX5_bits_5 : decode cX5_bits 5 = .ok (.bipush 12, 2) := by decide +kernel
theorem dX5_bits_7 : decode cX5_bits 7 = .ok (.if_icmp .ge 17, 3) := by decide +kernel
theorem dX5_bits_10 : decode cX5_bits 10 = .ok (.iload_n 1, 1) := by decide +kernel
theorem dX5_bits_11 : decode cX5_bits 11 = .ok (.iload_n 0, 1) := by decide +kernel
theorem dX5_bits_12 : decode cX5_bits 12 = .ok (.iload_n 2, 1) := by decide +kernel
theorem dX5_bits_13 : decode cX5_bits 13 = .ok (.ishr, 1) := by decide +kernel
theorem dX5_bits_14 : decode cX5_bits 14 = .ok (.iconst 1, 1) := by decide +kernel
theorem dX5_bits_15 : decode cX5_bits 15 = .ok (.iand, 1) := by decide +kernel
theorem dX5_bits_16 : decode cX5_bits 16 = .ok (.iadd, 1) := by decide +kernel
theorem dX5_bits_17 : decode cX5_bits 17 = .ok (.istore_n 1, 1) := by decide +kernel
theorem dX5_bits_18 : decode cX5_bits 18 = .ok (.iinc 2 1, 3) := by decide +kernel
theorem dX5_bits_21 : decode cX5_bits 21 = .ok (.goto (-17), 3) := by decide +kernel
theorem dX5_bits_24 : decode cX5_bits 24 = .ok (.iload_n 1, 1) := by decide +kernel
theorem dX5_bits_25 : decode cX5_bits 25 = .ok (.ireturn, 1) := by decide +kernel
theorem dX5_thirdsBar_0 : decode cX5_thirdsBar 0 = .ok (.iconst 0, 1) := by decide +kernel
theorem dX5_thirdsBar_1 : decode cX5_thirdsBar 1 = .ok (.istore_n 2, 1) := by decide +kernel
theorem dX5_thirdsBar_2 : decode cX5_thirdsBar 2 = .ok (.iconst 0, 1) := by decide +kernel
theorem dX5_thirdsBar_3 : decode cX5_thirdsBar 3 = .ok (.istore_n 3, 1) := by decide +kernel
theorem dX5_thirdsBar_4 : decode cX5_thirdsBar 4 = .ok (.iload_n 3, 1) := by decide +kernel
theorem dX5_thirdsBar_5 : decode cX5_thirdsBar 5 = .ok (.iconst 3, 1) := by decide +kernel
theorem dX5_thirdsBar_6 : decode cX5_thirdsBar 6 = .ok (.aload_n 0, 1) := by decide +kernel
theorem dX5_thirdsBar_7 : decode cX5_thirdsBar 7 = .ok (.getfield 53, 3) := by decide +kernel
theorem dX5_thirdsBar_10 : decode cX5_thirdsBar 10 = .ok (.imul, 1) := by decide +kernel
theorem dX5_thirdsBar_11 : decode cX5_thirdsBar 11 = .ok (.if_icmp .ge 49, 3) := by decide +kernel
end
section
theorem dX5_thirdsBar_14 : decode cX5_thirdsBar 14 = .ok (.iload_n 1, 1) := by decide +kernel
theorem dX5_thirdsBar_15 : decode cX5_thirdsBar 15 = .ok (.iload_n 3, 1) := by decide +kernel
theorem dX5_thirdsBar_16 : decode cX5_thirdsBar 16 = .ok (.iconst 3, 1) := by decide +kernel
theorem dX5_thirdsBar_17 : decode cX5_thirdsBar 17 = .ok (.idiv, 1) := by decide +kernel
theorem dX5_thirdsBar_18 : decode cX5_thirdsBar 18 = .ok (.ishr, 1) := by decide +kernel
theorem dX5_thirdsBar_19 : decode cX5_thirdsBar 19 = .ok (.iconst 1, 1) := by decide +kernel
theorem dX5_thirdsBar_20 : decode cX5_thirdsBar 20 = .ok (.iand, 1) := by decide +kernel
theorem dX5_thirdsBar_21 : decode cX5_thirdsBar 21 = .ok (.iconst 1, 1) := by decide +kernel
theorem dX5_thirdsBar_22 : decode cX5_thirdsBar 22 = .ok (.if_icmp .ne 32, 3) := by decide +kernel
theorem dX5_thirdsBar_25 : decode cX5_thirdsBar 25 = .ok (.aload_n 0, 1) := by decide +kernel
theorem dX5_thirdsBar_26 : decode cX5_thirdsBar 26 = .ok (.getfield 23, 3) := by decide +kernel
theorem dX5_thirdsBar_29 : decode cX5_thirdsBar 29 = .ok (.aload_n 0, 1) := by decide +kernel
theorem dX5_thirdsBar_30 : decode cX5_thirdsBar 30 = .ok (.getfield 13, 3) := by decide +kernel
theorem dX5_thirdsBar_33 : decode cX5_thirdsBar 33 = .ok (.iload_n 3, 1) := by decide +kernel
theorem dX5_thirdsBar_34 : decode cX5_thirdsBar 34 = .ok (.iaload, 1) := by decide +kernel
theorem dX5_thirdsBar_35 : decode cX5_thirdsBar 35 = .ok (.iaload, 1) := by decide +kernel
theorem dX5_thirdsBar_36 : decode cX5_thirdsBar 36 = .ok (.bipush (-6), 2) := by decide +kernel
theorem dX5_thirdsBar_38 : decode cX5_thirdsBar 38 = .ok (.if_icmp .ne 5, 3) := by decide +kernel
theorem dX5_thirdsBar_41 : decode cX5_thirdsBar 41 = .ok (.iconst 0, 1) := by decide +kernel
theorem dX5_thirdsBar_42 : decode cX5_thirdsBar 42 = .ok (.ireturn, 1) := by decide +kernel
theorem dX5_thirdsBar_43 : decode cX5_thirdsBar 43 = .ok (.iload_n 2, 1) := by decide +kernel
theorem dX5_thirdsBar_44 : decode cX5_thirdsBar 44 = .ok (.iconst 1, 1) := by decide +kernel
theorem dX5_thirdsBar_45 : decode cX5_thirdsBar 45 = .ok (.aload_n 0, 1) := by decide +kernel
theorem dX5_thirdsBar_46 : decode cX5_thirdsBar 46 = .ok (.getfield 13, 3) := by decide +kernel
theorem dX5_thirdsBar_49 : decode cX5_thirdsBar 49 = .ok (.iload_n 3, 1) := by decide +kernel
theorem dX5_thirdsBar_50 : decode cX5_thirdsBar 50 = .ok (.iaload, 1) := by decide +kernel
theorem dX5_thirdsBar_51 : decode cX5_thirdsBar 51 = .ok (.ishl, 1) := by decide +kernel
theorem dX5_thirdsBar_52 : decode cX5_thirdsBar 52 = .ok (.ior, 1) := by decide +kernel
theorem dX5_thirdsBar_53 : decode cX5_thirdsBar 53 = .ok (.istore_n 2, 1) := by decide +kernel
theorem dX5_thirdsBar_54 : decode cX5_thirdsBar 54 = .ok (.iinc 3 1, 3) := by decide +kernel
theorem dX5_thirdsBar_57 : decode cX5_thirdsBar 57 = .ok (.goto (-53), 3) := by decide +kernel
theorem dX5_thirdsBar_60 : decode cX5_thirdsBar 60 = .ok (.iconst 0, 1) := by decide +kernel
theorem dX5_thirdsBar_61 : decode cX5_thirdsBar 61 = .ok (.istore_n 3, 1) := by decide +kernel
theorem dX5_thirdsBar_62 : decode cX5_thirdsBar 62 = .ok (.iconst 0, 1) := by decide +kernel
theorem dX5_thirdsBar_63 : decode cX5_thirdsBar 63 = .ok (.istore 4, 2) := by decide +kernel
theorem dX5_thirdsBar_65 : decode cX5_thirdsBar 65 = .ok (.iload 4, 2) := by decide +kernel
theorem dX5_thirdsBar_67 : decode cX5_thirdsBar 67 = .ok (.aload_n 0, 1) := by decide +kernel
theorem dX5_thirdsBar_68 : decode cX5_thirdsBar 68 = .ok (.getfield 7, 3) := by decide +kernel
theorem dX5_thirdsBar_71 : decode cX5_thirdsBar 71 = .ok (.if_icmp .ge 33, 3) := by decide +kernel
theorem dX5_thirdsBar_74 : decode cX5_thirdsBar 74 = .ok (.iload_n 3, 1) := by decide +kernel
theorem dX5_thirdsBar_75 : decode cX5_thirdsBar 75 = .ok (.iload_n 2, 1) := by decide +kernel
theorem dX5_thirdsBar_76 : decode cX5_thirdsBar 76 = .ok (.iload 4, 2) := by decide +kernel
theorem dX5_thirdsBar_78 : decode cX5_thirdsBar 78 = .ok (.ishr, 1) := by decide +kernel
theorem dX5_thirdsBar_79 : decode cX5_thirdsBar 79 = .ok (.iconst 1, 1) := by decide +kernel
theorem dX5_thirdsBar_80 : decode cX5_thirdsBar 80 = .ok (.iand, 1) := by decide +kernel
theorem dX5_thirdsBar_81 : decode cX5_thirdsBar 81 = .ok (.iconst 1, 1) := by decide +kernel
theorem dX5_thirdsBar_82 : decode cX5_thirdsBar 82 = .ok (.if_icmp .ne 13, 3) := by decide +kernel
theorem dX5_thirdsBar_85 : decode cX5_thirdsBar 85 = .ok (.aload_n 0, 1) := by decide +kernel
theorem dX5_thirdsBar_86 : decode cX5_thirdsBar 86 = .ok (.getfield 23, 3) := by decide +kernel
theorem dX5_thirdsBar_89 : decode cX5_thirdsBar 89 = .ok (.iload 4, 2) := by decide +kernel
theorem dX5_thirdsBar_91 : decode cX5_thirdsBar 91 = .ok (.iaload, 1) := by decide +kernel
theorem dX5_thirdsBar_92 : decode cX5_thirdsBar 92 = .ok (.goto 4, 3) := by decide +kernel
theorem dX5_thirdsBar_95 : decode cX5_thirdsBar 95 = .ok (.iconst 0, 1) := by decide +kernel
theorem dX5_thirdsBar_96 : decode cX5_thirdsBar 96 = .ok (.iadd, 1) := by decide +kernel
theorem dX5_thirdsBar_97 : decode cX5_thirdsBar 97 = .ok (.istore_n 3, 1) := by decide +kernel
theorem dX5_thirdsBar_98 : decode cX5_thirdsBar 98 = .ok (.iinc 4 1, 3) := by decide +kernel
theorem dX5_thirdsBar_101 : decode cX5_thirdsBar 101 = .ok (.goto (-36), 3) := by decide +kernel
theorem dX5_thirdsBar_104 : decode cX5_thirdsBar 104 = .ok (.iconst 0, 1) := by decide +kernel
theorem dX5_thirdsBar_105 : decode cX5_thirdsBar 105 = .ok (.istore 4, 2) := by decide +kernel
theorem dX5_thirdsBar_107 : decode cX5_thirdsBar 107 = .ok (.iload 4, 2) := by decide +kernel
theorem dX5_thirdsBar_109 : decode cX5_thirdsBar 109 = .ok (.iconst 3, 1) := by decide +kernel
theorem dX5_thirdsBar_110 : decode cX5_thirdsBar 110 = .ok (.aload_n 0, 1) := by decide +kernel
theorem dX5_thirdsBar_111 : decode cX5_thirdsBar 111 = .ok (.getfield 53, 3) := by decide +kernel
theorem dX5_thirdsBar_114 : decode cX5_thirdsBar 114 = .ok (.imul, 1) := by decide +kernel
theorem dX5_thirdsBar_115 : decode cX5_thirdsBar 115 = .ok (.if_icmp .ge 46, 3) := by decide +kernel
theorem dX5_thirdsBar_118 : decode cX5_thirdsBar 118 = .ok (.iload_n 3, 1) := by decide +kernel
theorem dX5_thirdsBar_119 : decode cX5_thirdsBar 119 = .ok (.iload_n 1, 1) := by decide +kernel
theorem dX5_thirdsBar_120 : decode cX5_thirdsBar 120 = .ok (.iload 4, 2) := by decide +kernel
theorem dX5_thirdsBar_122 : decode cX5_thirdsBar 122 = .ok (.iconst 3, 1) := by decide +kernel
theorem dX5_thirdsBar_123 : decode cX5_thirdsBar 123 = .ok (.idiv, 1) := by decide +kernel
theorem dX5_thirdsBar_124 : decode cX5_thirdsBar 124 = .ok (.ishr, 1) := by decide +kernel
theorem dX5_thirdsBar_125 : decode cX5_thirdsBar 125 = .ok (.iconst 1, 1) := by decide +kernel
theorem dX5_thirdsBar_126 : decode cX5_thirdsBar 126 = .ok (.iand, 1) := by decide +kernel
theorem dX5_thirdsBar_127 : decode cX5_thirdsBar 127 = .ok (.ifCond .ne 25, 3) := by decide +kernel
theorem dX5_thirdsBar_130 : decode cX5_thirdsBar 130 = .ok (.iload_n 2, 1) := by decide +kernel
theorem dX5_thirdsBar_131 : decode cX5_thirdsBar 131 = .ok (.aload_n 0, 1) := by decide +kernel
theorem dX5_thirdsBar_132 : decode cX5_thirdsBar 132 = .ok (.getfield 13, 3) := by decide +kernel
theorem dX5_thirdsBar_135 : decode cX5_thirdsBar 135 = .ok (.iload 4, 2) := by decide +kernel
theorem dX5_thirdsBar_137 : decode cX5_thirdsBar 137 = .ok (.iaload, 1) := by decide +kernel
theorem dX5_thirdsBar_138 : decode cX5_thirdsBar 138 = .ok (.ishr, 1) := by decide +kernel
theorem dX5_thirdsBar_139 : decode cX5_thirdsBar 139 = .ok (.iconst 1, 1) := by decide +kernel
theorem dX5_thirdsBar_140 : decode cX5_thirdsBar 140 = .ok (.iand, 1) := by decide +kernel
theorem dX5_thirdsBar_141 : decode cX5_thirdsBar 141 = .ok (.iconst 1, 1) := by decide +kernel
theorem dX5_thirdsBar_142 : decode cX5_thirdsBar 142 = .ok (.if_icmp .ne 10, 3) := by decide +kernel
theorem dX5_thirdsBar_145 : decode cX5_thirdsBar 145 = .ok (.aload_n 0, 1) := by decide +kernel
theorem dX5_thirdsBar_146 : decode cX5_thirdsBar 146 = .ok (.getfield 20, 3) := by decide +kernel
theorem dX5_thirdsBar_149 : decode cX5_thirdsBar 149 = .ok (.goto 4, 3) := by decide +kernel
theorem dX5_thirdsBar_152 : decode cX5_thirdsBar 152 = .ok (.iconst 0, 1) := by decide +kernel
theorem dX5_thirdsBar_153 : decode cX5_thirdsBar 153 = .ok (.isub, 1) := by decide +kernel
theorem dX5_thirdsBar_154 : decode cX5_thirdsBar 154 = .ok (.istore_n 3, 1) := by decide +kernel
theorem dX5_thirdsBar_155 : decode cX5_thirdsBar 155 = .ok (.iinc 4 1, 3) := by decide +kernel
theorem dX5_thirdsBar_158 : decode cX5_thirdsBar 158 = .ok (.goto (-51), 3) := by decide +kernel
theorem dX5_thirdsBar_161 : decode cX5_thirdsBar 161 = .ok (.aload_n 0, 1) := by decide +kernel
theorem dX5_thirdsBar_162 : decode cX5_thirdsBar 162 = .ok (.getfield 17, 3) := by decide +kernel
theorem dX5_thirdsBar_165 : decode cX5_thirdsBar 165 = .ok (.iload_n 1, 1) := by decide +kernel
theorem dX5_thirdsBar_166 : decode cX5_thirdsBar 166 = .ok (.invokestatic 166, 3) := by decide +kernel
theorem dX5_thirdsBar_169 : decode cX5_thirdsBar 169 = .ok (.imul, 1) := by decide +kernel
theorem dX5_thirdsBar_170 : decode cX5_thirdsBar 170 = .ok (.iload_n 3, 1) := by decide +kernel
theorem dX5_thirdsBar_171 : decode cX5_thirdsBar 171 = .ok (.if_icmp .le 7, 3) := by decide +kernel
theorem dX5_thirdsBar_174 : decode cX5_thirdsBar 174 = .ok (.iconst 1, 1) := by decide +kernel
theorem dX5_thirdsBar_175 : decode cX5_thirdsBar 175 = .ok (.goto 4, 3) := by decide +kernel
theorem dX5_thirdsBar_178 : decode cX5_thirdsBar 178 = .ok (.iconst 0, 1) := by decide +kernel
theorem dX5_thirdsBar_179 : decode cX5_thirdsBar 179 = .ok (.ireturn, 1) := by decide +kernel
theorem dX5_postsBar_0 : decode cX5_postsBar 0 = .ok (.iconst 0, 1) := by decide +kernel
theorem dX5_postsBar_1 : decode cX5_postsBar 1 = .ok (.istore_n 3, 1) := by decide +kernel
theorem dX5_postsBar_2 : decode cX5_postsBar 2 = .ok (.iconst 0, 1) := by decide +kernel
theorem dX5_postsBar_3 : decode cX5_postsBar 3 = .ok (.istore 4, 2) := by decide +kernel
theorem dX5_postsBar_5 : decode cX5_postsBar 5 = .ok (.iload 4, 2) := by decide +kernel
theorem dX5_postsBar_7 : decode cX5_postsBar 7 = .ok (.aload_n 0, 1) := by decide +kernel
theorem dX5_postsBar_8 : decode cX5_postsBar 8 = .ok (.getfield 7, 3) := by decide +kernel
theorem dX5_postsBar_11 : decode cX5_postsBar 11 = .ok (.if_icmp .ge 43, 3) := by decide +kernel
theorem dX5_postsBar_14 : decode cX5_postsBar 14 = .ok (.iload_n 1, 1) := by decide +kernel
theorem dX5_postsBar_15 : decode cX5_postsBar 15 = .ok (.iload 4, 2) := by decide +kernel
theorem dX5_postsBar_17 : decode cX5_postsBar 17 = .ok (.ishr, 1) := by decide +kernel
theorem dX5_postsBar_18 : decode cX5_postsBar 18 = .ok (.iconst 1, 1) := by decide +kernel
theorem dX5_postsBar_19 : decode cX5_postsBar 19 = .ok (.iand, 1) := by decide +kernel
theorem dX5_postsBar_20 : decode cX5_postsBar 20 = .ok (.iconst 1, 1) := by decide +kernel
theorem dX5_postsBar_21 : decode cX5_postsBar 21 = .ok (.if_icmp .ne 27, 3) := by decide +kernel
theorem dX5_postsBar_24 : decode cX5_postsBar 24 = .ok (.aload_n 0, 1) := by decide +kernel
theorem dX5_postsBar_25 : decode cX5_postsBar 25 = .ok (.getfield 23, 3) := by decide +kernel
theorem dX5_postsBar_28 : decode cX5_postsBar 28 = .ok (.iload 4, 2) := by decide +kernel
theorem dX5_postsBar_30 : decode cX5_postsBar 30 = .ok (.iaload, 1) := by decide +kernel
theorem dX5_postsBar_31 : decode cX5_postsBar 31 = .ok (.bipush (-6), 2) := by decide +kernel
theorem dX5_postsBar_33 : decode cX5_postsBar 33 = .ok (.if_icmp .ne 5, 3) := by decide +kernel
theorem dX5_postsBar_36 : decode cX5_postsBar 36 = .ok (.iconst 0, 1) := by decide +kernel
theorem dX5_postsBar_37 : decode cX5_postsBar 37 = .ok (.ireturn, 1) := by decide +kernel
theorem dX5_postsBar_38 : decode cX5_postsBar 38 = .ok (.iload_n 3, 1) := by decide +kernel
theorem dX5_postsBar_39 : decode cX5_postsBar 39 = .ok (.aload_n 0, 1) := by decide +kernel
theorem dX5_postsBar_40 : decode cX5_postsBar 40 = .ok (.getfield 23, 3) := by decide +kernel
theorem dX5_postsBar_43 : decode cX5_postsBar 43 = .ok (.iload 4, 2) := by decide +kernel
theorem dX5_postsBar_45 : decode cX5_postsBar 45 = .ok (.iaload, 1) := by decide +kernel
theorem dX5_postsBar_46 : decode cX5_postsBar 46 = .ok (.iadd, 1) := by decide +kernel
theorem dX5_postsBar_47 : decode cX5_postsBar 47 = .ok (.istore_n 3, 1) := by decide +kernel
theorem dX5_postsBar_48 : decode cX5_postsBar 48 = .ok (.iinc 4 1, 3) := by decide +kernel
theorem dX5_postsBar_51 : decode cX5_postsBar 51 = .ok (.goto (-46), 3) := by decide +kernel
theorem dX5_postsBar_54 : decode cX5_postsBar 54 = .ok (.iconst 0, 1) := by decide +kernel
theorem dX5_postsBar_55 : decode cX5_postsBar 55 = .ok (.istore 4, 2) := by decide +kernel
theorem dX5_postsBar_57 : decode cX5_postsBar 57 = .ok (.iconst 0, 1) := by decide +kernel
theorem dX5_postsBar_58 : decode cX5_postsBar 58 = .ok (.istore 5, 2) := by decide +kernel
theorem dX5_postsBar_60 : decode cX5_postsBar 60 = .ok (.iconst 0, 1) := by decide +kernel
theorem dX5_postsBar_61 : decode cX5_postsBar 61 = .ok (.istore 6, 2) := by decide +kernel
theorem dX5_postsBar_63 : decode cX5_postsBar 63 = .ok (.iload 6, 2) := by decide +kernel
theorem dX5_postsBar_65 : decode cX5_postsBar 65 = .ok (.aload_n 0, 1) := by decide +kernel
theorem dX5_postsBar_66 : decode cX5_postsBar 66 = .ok (.getfield 53, 3) := by decide +kernel
theorem dX5_postsBar_69 : decode cX5_postsBar 69 = .ok (.if_icmp .ge 101, 3) := by decide +kernel
theorem dX5_postsBar_72 : decode cX5_postsBar 72 = .ok (.iconst 0, 1) := by decide +kernel
theorem dX5_postsBar_73 : decode cX5_postsBar 73 = .ok (.istore 7, 2) := by decide +kernel
theorem dX5_postsBar_75 : decode cX5_postsBar 75 = .ok (.iconst 0, 1) := by decide +kernel
theorem dX5_postsBar_76 : decode cX5_postsBar 76 = .ok (.istore 8, 2) := by decide +kernel
theorem dX5_postsBar_78 : decode cX5_postsBar 78 = .ok (.iload 8, 2) := by decide +kernel
theorem dX5_postsBar_80 : decode cX5_postsBar 80 = .ok (.iconst 3, 1) := by decide +kernel
theorem dX5_postsBar_81 : decode cX5_postsBar 81 = .ok (.if_icmp .ge 30, 3) := by decide +kernel
theorem dX5_postsBar_84 : decode cX5_postsBar 84 = .ok (.iload 7, 2) := by decide +kernel
theorem dX5_postsBar_86 : decode cX5_postsBar 86 = .ok (.iload_n 1, 1) := by decide +kernel
theorem dX5_postsBar_87 : decode cX5_postsBar 87 = .ok (.aload_n 0, 1) := by decide +kernel
theorem dX5_postsBar_88 : decode cX5_postsBar 88 = .ok (.getfield 13, 3) := by decide +kernel
theorem dX5_postsBar_91 : decode cX5_postsBar 91 = .ok (.iconst 3, 1) := by decide +kernel
theorem dX5_postsBar_92 : decode cX5_postsBar 92 = .ok (.iload 6, 2) := by decide +kernel
theorem dX5_postsBar_94 : decode cX5_postsBar 94 = .ok (.imul, 1) := by decide +kernel
theorem dX5_postsBar_95 : decode cX5_postsBar 95 = .ok (.iload 8, 2) := by decide +kernel
theorem dX5_postsBar_97 : decode cX5_postsBar 97 = .ok (.iadd, 1) := by decide +kernel
theorem dX5_postsBar_98 : decode cX5_postsBar 98 = .ok (.iaload, 1) := by decide +kernel
theorem dX5_postsBar_99 : decode cX5_postsBar 99 = .ok (.ishr, 1) := by decide +kernel
theorem dX5_postsBar_100 : decode cX5_postsBar 100 = .ok (.iconst 1, 1) := by decide +kernel
theorem dX5_postsBar_101 : decode cX5_postsBar 101 = .ok (.iand, 1) := by decide +kernel
theorem dX5_postsBar_102 : decode cX5_postsBar 102 = .ok (.iadd, 1) := by decide +kernel
theorem dX5_postsBar_103 : decode cX5_postsBar 103 = .ok (.istore 7, 2) := by decide +kernel
theorem dX5_postsBar_105 : decode cX5_postsBar 105 = .ok (.iinc 8 1, 3) := by decide +kernel
theorem dX5_postsBar_108 : decode cX5_postsBar 108 = .ok (.goto (-30), 3) := by decide +kernel
theorem dX5_postsBar_111 : decode cX5_postsBar 111 = .ok (.iload 4, 2) := by decide +kernel
theorem dX5_postsBar_113 : decode cX5_postsBar 113 = .ok (.iload 7, 2) := by decide +kernel
theorem dX5_postsBar_115 : decode cX5_postsBar 115 = .ok (.ifCond .ne 7, 3) := by decide +kernel
theorem dX5_postsBar_118 : decode cX5_postsBar 118 = .ok (.iconst 0, 1) := by decide +kernel
theorem dX5_postsBar_119 : decode cX5_postsBar 119 = .ok (.goto 17, 3) := by decide +kernel
theorem dX5_postsBar_122 : decode cX5_postsBar 122 = .ok (.aload_n 0, 1) := by decide +kernel
theorem dX5_postsBar_123 : decode cX5_postsBar 123 = .ok (.getfield 17, 3) := by decide +kernel
theorem dX5_postsBar_126 : decode cX5_postsBar 126 = .ok (.aload_n 0, 1) := by decide +kernel
theorem dX5_postsBar_127 : decode cX5_postsBar 127 = .ok (.getfield 20, 3) := by decide +kernel
theorem dX5_postsBar_130 : decode cX5_postsBar 130 = .ok (.iconst 3, 1) := by decide +kernel
theorem dX5_postsBar_131 : decode cX5_postsBar 131 = .ok (.iload 7, 2) := by decide +kernel
theorem dX5_postsBar_133 : decode cX5_postsBar 133 = .ok (.isub, 1) := by decide +kernel
theorem dX5_postsBar_134 : decode cX5_postsBar 134 = .ok (.imul, 1) := by decide +kernel
theorem dX5_postsBar_135 : decode cX5_postsBar 135 = .ok (.isub, 1) := by decide +kernel
theorem dX5_postsBar_136 : decode cX5_postsBar 136 = .ok (.iadd, 1) := by decide +kernel
theorem dX5_postsBar_137 : decode cX5_postsBar 137 = .ok (.istore 4, 2) := by decide +kernel
theorem dX5_postsBar_139 : decode cX5_postsBar 139 = .ok (.iload 5, 2) := by decide +kernel
theorem dX5_postsBar_141 : decode cX5_postsBar 141 = .ok (.iload 7, 2) := by decide +kernel
theorem dX5_postsBar_143 : decode cX5_postsBar 143 = .ok (.iconst 3, 1) := by decide +kernel
theorem dX5_postsBar_144 : decode cX5_postsBar 144 = .ok (.if_icmp .ne 10, 3) := by decide +kernel
theorem dX5_postsBar_147 : decode cX5_postsBar 147 = .ok (.aload_n 0, 1) := by decide +kernel
theorem dX5_postsBar_148 : decode cX5_postsBar 148 = .ok (.getfield 17, 3) := by decide +kernel
theorem dX5_postsBar_151 : decode cX5_postsBar 151 = .ok (.goto 10, 3) := by decide +kernel
theorem dX5_postsBar_154 : decode cX5_postsBar 154 = .ok (.aload_n 0, 1) := by decide +kernel
theorem dX5_postsBar_155 : decode cX5_postsBar 155 = .ok (.getfield 20, 3) := by decide +kernel
theorem dX5_postsBar_158 : decode cX5_postsBar 158 = .ok (.iload 7, 2) := by decide +kernel
theorem dX5_postsBar_160 : decode cX5_postsBar 160 = .ok (.imul, 1) := by decide +kernel
theorem dX5_postsBar_161 : decode cX5_postsBar 161 = .ok (.iadd, 1) := by decide +kernel
theorem dX5_postsBar_162 : decode cX5_postsBar 162 = .ok (.istore 5, 2) := by decide +kernel
theorem dX5_postsBar_164 : decode cX5_postsBar 164 = .ok (.iinc 6 1, 3) := by decide +kernel
theorem dX5_postsBar_167 : decode cX5_postsBar 167 = .ok (.goto (-104), 3) := by decide +kernel
theorem dX5_postsBar_170 : decode cX5_postsBar 170 = .ok (.iload_n 2, 1) := by decide +kernel
theorem dX5_postsBar_171 : decode cX5_postsBar 171 = .ok (.iconst 1, 1) := by decide +kernel
theorem dX5_postsBar_172 : decode cX5_postsBar 172 = .ok (.if_icmp .ne 17, 3) := by decide +kernel
theorem dX5_postsBar_175 : decode cX5_postsBar 175 = .ok (.iload_n 3, 1) := by decide +kernel
theorem dX5_postsBar_176 : decode cX5_postsBar 176 = .ok (.iload 4, 2) := by decide +kernel
theorem dX5_postsBar_178 : decode cX5_postsBar 178 = .ok (.if_icmp .le 7, 3) := by decide +kernel
theorem dX5_postsBar_181 : decode cX5_postsBar 181 = .ok (.iconst 1, 1) := by decide +kernel
theorem dX5_postsBar_182 : decode cX5_postsBar 182 = .ok (.goto 18, 3) := by decide +kernel
theorem dX5_postsBar_185 : decode cX5_postsBar 185 = .ok (.iconst 0, 1) := by decide +kernel
theorem dX5_postsBar_186 : decode cX5_postsBar 186 = .ok (.goto 14, 3) := by decide +kernel
theorem dX5_postsBar_189 : decode cX5_postsBar 189 = .ok (.iload_n 3, 1) := by decide +kernel
theorem dX5_postsBar_190 : decode cX5_postsBar 190 = .ok (.iload 5, 2) := by decide +kernel
theorem dX5_postsBar_192 : decode cX5_postsBar 192 = .ok (.if_icmp .ge 7, 3) := by decide +kernel
theorem dX5_postsBar_195 : decode cX5_postsBar 195 = .ok (.iconst 1, 1) := by decide +kernel
theorem dX5_postsBar_196 : decode cX5_postsBar 196 = .ok (.goto 4, 3) := by decide +kernel
theorem dX5_postsBar_199 : decode cX5_postsBar 199 = .ok (.iconst 0, 1) := by decide +kernel
theorem dX5_postsBar_200 : decode cX5_postsBar 200 = .ok (.ireturn, 1) := by decide +kernel
theorem dX5_bar_0 : decode cX5_bar 0 = .ok (.iload_n 1, 1) := by decide +kernel
theorem dX5_bar_1 : decode cX5_bar 1 = .ok (.iconst 0, 1) := by decide +kernel
theorem dX5_bar_2 : decode cX5_bar 2 = .ok (.iconst 2, 1) := by decide +kernel
theorem dX5_bar_3 : decode cX5_bar 3 = .ok (.invokestatic 66, 3) := by decide +kernel
theorem dX5_bar_6 : decode cX5_bar 6 = .ok (.ifCond .ne 6, 3) := by decide +kernel
theorem dX5_bar_9 : decode cX5_bar 9 = .ok (.bipush (-2), 2) := by decide +kernel
theorem dX5_bar_11 : decode cX5_bar 11 = .ok (.ireturn, 1) := by decide +kernel
theorem dX5_bar_12 : decode cX5_bar 12 = .ok (.iconst 0, 1) := by decide +kernel
theorem dX5_bar_13 : decode cX5_bar 13 = .ok (.istore_n 2, 1) := by decide +kernel
theorem dX5_bar_14 : decode cX5_bar 14 = .ok (.iconst 1, 1) := by decide +kernel
theorem dX5_bar_15 : decode cX5_bar 15 = .ok (.iload_n 1, 1) := by decide +kernel
theorem dX5_bar_16 : decode cX5_bar 16 = .ok (.ifCond .ne 10, 3) := by decide +kernel
theorem dX5_bar_19 : decode cX5_bar 19 = .ok (.aload_n 0, 1) := by decide +kernel
theorem dX5_bar_20 : decode cX5_bar 20 = .ok (.getfield 53, 3) := by decide +kernel
theorem dX5_bar_23 : decode cX5_bar 23 = .ok (.goto 7, 3) := by decide +kernel
theorem dX5_bar_26 : decode cX5_bar 26 = .ok (.aload_n 0, 1) := by decide +kernel
theorem dX5_bar_27 : decode cX5_bar 27 = .ok (.getfield 7, 3) := by decide +kernel
theorem dX5_bar_30 : decode cX5_bar 30 = .ok (.ishl, 1) := by decide +kernel
theorem dX5_bar_31 : decode cX5_bar 31 = .ok (.istore_n 3, 1) := by decide +kernel
theorem dX5_bar_32 : decode cX5_bar 32 = .ok (.iconst 1, 1) := by decide +kernel
theorem dX5_bar_33 : decode cX5_bar 33 = .ok (.istore 4, 2) := by decide +kernel
theorem dX5_bar_35 : decode cX5_bar 35 = .ok (.iload 4, 2) := by decide +kernel
theorem dX5_bar_37 : decode cX5_bar 37 = .ok (.iload_n 3, 1) := by decide +kernel
theorem dX5_bar_38 : decode cX5_bar 38 = .ok (.if_icmp .ge 66, 3) := by decide +kernel
theorem dX5_bar_41 : decode cX5_bar 41 = .ok (.iload_n 2, 1) := by decide +kernel
theorem dX5_bar_42 : decode cX5_bar 42 = .ok (.ifCond .eq 15, 3) := by decide +kernel
theorem dX5_bar_45 : decode cX5_bar 45 = .ok (.iload 4, 2) := by decide +kernel
theorem dX5_bar_47 : decode cX5_bar 47 = .ok (.invokestatic 166, 3) := by decide +kernel
theorem dX5_bar_50 : decode cX5_bar 50 = .ok (.iload_n 2, 1) := by decide +kernel
theorem dX5_bar_51 : decode cX5_bar 51 = .ok (.invokestatic 166, 3) := by decide +kernel
theorem dX5_bar_54 : decode cX5_bar 54 = .ok (.if_icmp .ge 7, 3) := by decide +kernel
theorem dX5_bar_57 : decode cX5_bar 57 = .ok (.iconst 1, 1) := by decide +kernel
theorem dX5_bar_58 : decode cX5_bar 58 = .ok (.goto 4, 3) := by decide +kernel
theorem dX5_bar_61 : decode cX5_bar 61 = .ok (.iconst 0, 1) := by decide +kernel
theorem dX5_bar_62 : decode cX5_bar 62 = .ok (.istore 5, 2) := by decide +kernel
theorem dX5_bar_64 : decode cX5_bar 64 = .ok (.iload 5, 2) := by decide +kernel
theorem dX5_bar_66 : decode cX5_bar 66 = .ok (.ifCond .eq 32, 3) := by decide +kernel
theorem dX5_bar_69 : decode cX5_bar 69 = .ok (.iload_n 1, 1) := by decide +kernel
theorem dX5_bar_70 : decode cX5_bar 70 = .ok (.ifCond .ne 15, 3) := by decide +kernel
theorem dX5_bar_73 : decode cX5_bar 73 = .ok (.aload_n 0, 1) := by decide +kernel
theorem dX5_bar_74 : decode cX5_bar 74 = .ok (.iload 4, 2) := by decide +kernel
theorem dX5_bar_76 : decode cX5_bar 76 = .ok (.invokevirtual 169, 3) := by decide +kernel
theorem dX5_bar_79 : decode cX5_bar 79 = .ok (.ifCond .eq 19, 3) := by decide +kernel
theorem dX5_bar_82 : decode cX5_bar 82 = .ok (.goto 13, 3) := by decide +kernel
theorem dX5_bar_85 : decode cX5_bar 85 = .ok (.aload_n 0, 1) := by decide +kernel
theorem dX5_bar_86 : decode cX5_bar 86 = .ok (.iload 4, 2) := by decide +kernel
theorem dX5_bar_88 : decode cX5_bar 88 = .ok (.iload_n 1, 1) := by decide +kernel
theorem dX5_bar_89 : decode cX5_bar 89 = .ok (.invokevirtual 172, 3) := by decide +kernel
theorem dX5_bar_92 : decode cX5_bar 92 = .ok (.ifCond .eq 6, 3) := by decide +kernel
theorem dX5_bar_95 : decode cX5_bar 95 = .ok (.iload 4, 2) := by decide +kernel
theorem dX5_bar_97 : decode cX5_bar 97 = .ok (.istore_n 2, 1) := by decide +kernel
theorem dX5_bar_98 : decode cX5_bar 98 = .ok (.iinc 4 1, 3) := by decide +kernel
theorem dX5_bar_101 : decode cX5_bar 101 = .ok (.goto (-66), 3) := by decide +kernel
theorem dX5_bar_104 : decode cX5_bar 104 = .ok (.iload_n 2, 1) := by decide +kernel
theorem dX5_bar_105 : decode cX5_bar 105 = .ok (.ireturn, 1) := by decide +kernel
theorem dX5_oppositeOf_0 : decode cX5_oppositeOf 0 = .ok (.iconst 0, 1) := by decide +kernel
theorem dX5_oppositeOf_1 : decode cX5_oppositeOf 1 = .ok (.istore_n 3, 1) := by decide +kernel
theorem dX5_oppositeOf_2 : decode cX5_oppositeOf 2 = .ok (.iconst 0, 1) := by decide +kernel
theorem dX5_oppositeOf_3 : decode cX5_oppositeOf 3 = .ok (.istore 4, 2) := by decide +kernel
theorem dX5_oppositeOf_5 : decode cX5_oppositeOf 5 = .ok (.iload 4, 2) := by decide +kernel
theorem dX5_oppositeOf_7 : decode cX5_oppositeOf 7 = .ok (.iconst 2, 1) := by decide +kernel
theorem dX5_oppositeOf_8 : decode cX5_oppositeOf 8 = .ok (.if_icmp .ge 61, 3) := by decide +kernel
theorem dX5_oppositeOf_11 : decode cX5_oppositeOf 11 = .ok (.iload 4, 2) := by decide +kernel
theorem dX5_oppositeOf_13 : decode cX5_oppositeOf 13 = .ok (.ifCond .ne 12, 3) := by decide +kernel
theorem dX5_oppositeOf_16 : decode cX5_oppositeOf 16 = .ok (.aload_n 0, 1) := by decide +kernel
theorem dX5_oppositeOf_17 : decode cX5_oppositeOf 17 = .ok (.iload_n 1, 1) := by decide +kernel
theorem dX5_oppositeOf_18 : decode cX5_oppositeOf 18 = .ok (.iload_n 2, 1) := by decide +kernel
theorem dX5_oppositeOf_19 : decode cX5_oppositeOf 19 = .ok (.invokevirtual 74, 3) := by decide +kernel
theorem dX5_oppositeOf_22 : decode cX5_oppositeOf 22 = .ok (.goto 9, 3) := by decide +kernel
theorem dX5_oppositeOf_25 : decode cX5_oppositeOf 25 = .ok (.aload_n 0, 1) := by decide +kernel
theorem dX5_oppositeOf_26 : decode cX5_oppositeOf 26 = .ok (.iload_n 2, 1) := by decide +kernel
theorem dX5_oppositeOf_27 : decode cX5_oppositeOf 27 = .ok (.iload_n 1, 1) := by decide +kernel
theorem dX5_oppositeOf_28 : decode cX5_oppositeOf 28 = .ok (.invokevirtual 74, 3) := by decide +kernel
theorem dX5_oppositeOf_31 : decode cX5_oppositeOf 31 = .ok (.istore 5, 2) := by decide +kernel
theorem dX5_oppositeOf_33 : decode cX5_oppositeOf 33 = .ok (.iload_n 3, 1) := by decide +kernel
theorem dX5_oppositeOf_34 : decode cX5_oppositeOf 34 = .ok (.iload 5, 2) := by decide +kernel
theorem dX5_oppositeOf_36 : decode cX5_oppositeOf 36 = .ok (.ifCond .ge 7, 3) := by decide +kernel
theorem dX5_oppositeOf_39 : decode cX5_oppositeOf 39 = .ok (.iconst 0, 1) := by decide +kernel
theorem dX5_oppositeOf_40 : decode cX5_oppositeOf 40 = .ok (.goto 21, 3) := by decide +kernel
theorem dX5_oppositeOf_43 : decode cX5_oppositeOf 43 = .ok (.aload_n 0, 1) := by decide +kernel
theorem dX5_oppositeOf_44 : decode cX5_oppositeOf 44 = .ok (.getfield 20, 3) := by decide +kernel
theorem dX5_oppositeOf_47 : decode cX5_oppositeOf 47 = .ok (.aload_n 0, 1) := by decide +kernel
theorem dX5_oppositeOf_48 : decode cX5_oppositeOf 48 = .ok (.getfield 26, 3) := by decide +kernel
theorem dX5_oppositeOf_51 : decode cX5_oppositeOf 51 = .ok (.aload_n 0, 1) := by decide +kernel
theorem dX5_oppositeOf_52 : decode cX5_oppositeOf 52 = .ok (.iload 5, 2) := by decide +kernel
theorem dX5_oppositeOf_54 : decode cX5_oppositeOf 54 = .ok (.iload_n 1, 1) := by decide +kernel
theorem dX5_oppositeOf_55 : decode cX5_oppositeOf 55 = .ok (.iload_n 2, 1) := by decide +kernel
theorem dX5_oppositeOf_56 : decode cX5_oppositeOf 56 = .ok (.invokevirtual 96, 3) := by decide +kernel
theorem dX5_oppositeOf_59 : decode cX5_oppositeOf 59 = .ok (.iaload, 1) := by decide +kernel
theorem dX5_oppositeOf_60 : decode cX5_oppositeOf 60 = .ok (.iadd, 1) := by decide +kernel
theorem dX5_oppositeOf_61 : decode cX5_oppositeOf 61 = .ok (.iadd, 1) := by decide +kernel
theorem dX5_oppositeOf_62 : decode cX5_oppositeOf 62 = .ok (.istore_n 3, 1) := by decide +kernel
theorem dX5_oppositeOf_63 : decode cX5_oppositeOf 63 = .ok (.iinc 4 1, 3) := by decide +kernel
theorem dX5_oppositeOf_66 : decode cX5_oppositeOf 66 = .ok (.goto (-61), 3) := by decide +kernel
theorem dX5_oppositeOf_69 : decode cX5_oppositeOf 69 = .ok (.iload_n 3, 1) := by decide +kernel
theorem dX5_oppositeOf_70 : decode cX5_oppositeOf 70 = .ok (.ireturn, 1) := by decide +kernel
theorem dX5_opposite_0 : decode cX5_opposite 0 = .ok (.aload_n 0, 1) := by decide +kernel
theorem dX5_opposite_1 : decode cX5_opposite 1 = .ok (.iload_n 1, 1) := by decide +kernel
theorem dX5_opposite_2 : decode cX5_opposite 2 = .ok (.iload_n 2, 1) := by decide +kernel
theorem dX5_opposite_3 : decode cX5_opposite 3 = .ok (.invokevirtual 78, 3) := by decide +kernel
theorem dX5_opposite_6 : decode cX5_opposite 6 = .ok (.ifCond .eq 12, 3) := by decide +kernel
theorem dX5_opposite_9 : decode cX5_opposite 9 = .ok (.aload_n 0, 1) := by decide +kernel
theorem dX5_opposite_10 : decode cX5_opposite 10 = .ok (.iload_n 1, 1) := by decide +kernel
theorem dX5_opposite_11 : decode cX5_opposite 11 = .ok (.iload_n 2, 1) := by decide +kernel
theorem dX5_opposite_12 : decode cX5_opposite 12 = .ok (.invokevirtual 93, 3) := by decide +kernel
theorem dX5_opposite_15 : decode cX5_opposite 15 = .ok (.ifCond .ne 5, 3) := by decide +kernel
theorem dX5_opposite_18 : decode cX5_opposite 18 = .ok (.iconst (-1), 1) := by decide +kernel
theorem dX5_opposite_19 : decode cX5_opposite 19 = .ok (.ireturn, 1) := by decide +kernel
theorem dX5_opposite_20 : decode cX5_opposite 20 = .ok (.aload_n 0, 1) := by decide +kernel
theorem dX5_opposite_21 : decode cX5_opposite 21 = .ok (.invokevirtual 109, 3) := by decide +kernel
theorem dX5_opposite_24 : decode cX5_opposite 24 = .ok (.ifCond .eq 12, 3) := by decide +kernel
theorem dX5_opposite_27 : decode cX5_opposite 27 = .ok (.aload_n 0, 1) := by decide +kernel
theorem dX5_opposite_28 : decode cX5_opposite 28 = .ok (.iload_n 1, 1) := by decide +kernel
theorem dX5_opposite_29 : decode cX5_opposite 29 = .ok (.iload_n 2, 1) := by decide +kernel
theorem dX5_opposite_30 : decode cX5_opposite 30 = .ok (.invokevirtual 175, 3) := by decide +kernel
theorem dX5_opposite_33 : decode cX5_opposite 33 = .ok (.goto 5, 3) := by decide +kernel
theorem dX5_opposite_36 : decode cX5_opposite 36 = .ok (.bipush (-6), 2) := by decide +kernel
theorem dX5_opposite_38 : decode cX5_opposite 38 = .ok (.ireturn, 1) := by decide +kernel
theorem dX5_fit_0 : decode cX5_fit 0 = .ok (.aload_n 0, 1) := by decide +kernel
theorem dX5_fit_1 : decode cX5_fit 1 = .ok (.invokevirtual 109, 3) := by decide +kernel
theorem dX5_fit_4 : decode cX5_fit 4 = .ok (.ifCond .ne 6, 3) := by decide +kernel
theorem dX5_fit_7 : decode cX5_fit 7 = .ok (.bipush (-6), 2) := by decide +kernel
theorem dX5_fit_9 : decode cX5_fit 9 = .ok (.ireturn, 1) := by decide +kernel
theorem dX5_fit_10 : decode cX5_fit 10 = .ok (.iconst 0, 1) := by decide +kernel
theorem dX5_fit_11 : decode cX5_fit 11 = .ok (.istore_n 1, 1) := by decide +kernel
theorem dX5_fit_12 : decode cX5_fit 12 = .ok (.iconst 0, 1) := by decide +kernel
theorem dX5_fit_13 : decode cX5_fit 13 = .ok (.istore_n 2, 1) := by decide +kernel
theorem dX5_fit_14 : decode cX5_fit 14 = .ok (.iload_n 2, 1) := by decide +kernel
theorem dX5_fit_15 : decode cX5_fit 15 = .ok (.aload_n 0, 1) := by decide +kernel
theorem dX5_fit_16 : decode cX5_fit 16 = .ok (.getfield 7, 3) := by decide +kernel
theorem dX5_fit_19 : decode cX5_fit 19 = .ok (.if_icmp .ge 53, 3) := by decide +kernel
theorem dX5_fit_22 : decode cX5_fit 22 = .ok (.iconst 0, 1) := by decide +kernel
theorem dX5_fit_23 : decode cX5_fit 23 = .ok (.istore_n 3, 1) := by decide +kernel
theorem dX5_fit_24 : decode cX5_fit 24 = .ok (.iload_n 3, 1) := by decide +kernel
theorem dX5_fit_25 : decode cX5_fit 25 = .ok (.iload_n 2, 1) := by decide +kernel
theorem dX5_fit_26 : decode cX5_fit 26 = .ok (.if_icmp .ge 40, 3) := by decide +kernel
theorem dX5_fit_29 : decode cX5_fit 29 = .ok (.iload_n 1, 1) := by decide +kernel
theorem dX5_fit_30 : decode cX5_fit 30 = .ok (.aload_n 0, 1) := by decide +kernel
theorem dX5_fit_31 : decode cX5_fit 31 = .ok (.iload_n 2, 1) := by decide +kernel
theorem dX5_fit_32 : decode cX5_fit 32 = .ok (.iload_n 3, 1) := by decide +kernel
theorem dX5_fit_33 : decode cX5_fit 33 = .ok (.invokevirtual 93, 3) := by decide +kernel
theorem dX5_fit_36 : decode cX5_fit 36 = .ok (.iconst 2, 1) := by decide +kernel
theorem dX5_fit_37 : decode cX5_fit 37 = .ok (.if_icmp .ne 20, 3) := by decide +kernel
theorem dX5_fit_40 : decode cX5_fit 40 = .ok (.aload_n 0, 1) := by decide +kernel
theorem dX5_fit_41 : decode cX5_fit 41 = .ok (.iload_n 2, 1) := by decide +kernel
theorem dX5_fit_42 : decode cX5_fit 42 = .ok (.iload_n 3, 1) := by decide +kernel
theorem dX5_fit_43 : decode cX5_fit 43 = .ok (.invokevirtual 175, 3) := by decide +kernel
theorem dX5_fit_46 : decode cX5_fit 46 = .ok (.aload_n 0, 1) := by decide +kernel
theorem dX5_fit_47 : decode cX5_fit 47 = .ok (.getfield 17, 3) := by decide +kernel
theorem dX5_fit_50 : decode cX5_fit 50 = .ok (.if_icmp .gt 7, 3) := by decide +kernel
theorem dX5_fit_53 : decode cX5_fit 53 = .ok (.iconst 1, 1) := by decide +kernel
theorem dX5_fit_54 : decode cX5_fit 54 = .ok (.goto 4, 3) := by decide +kernel
theorem dX5_fit_57 : decode cX5_fit 57 = .ok (.iconst 0, 1) := by decide +kernel
theorem dX5_fit_58 : decode cX5_fit 58 = .ok (.iadd, 1) := by decide +kernel
theorem dX5_fit_59 : decode cX5_fit 59 = .ok (.istore_n 1, 1) := by decide +kernel
theorem dX5_fit_60 : decode cX5_fit 60 = .ok (.iinc 3 1, 3) := by decide +kernel
theorem dX5_fit_63 : decode cX5_fit 63 = .ok (.goto (-39), 3) := by decide +kernel
theorem dX5_fit_66 : decode cX5_fit 66 = .ok (.iinc 2 1, 3) := by decide +kernel
theorem dX5_fit_69 : decode cX5_fit 69 = .ok (.goto (-55), 3) := by decide +kernel
theorem dX5_fit_72 : decode cX5_fit 72 = .ok (.iload_n 1, 1) := by decide +kernel
theorem dX5_fit_73 : decode cX5_fit 73 = .ok (.ireturn, 1) := by decide +kernel
theorem dJ6_bitCount_0f7a4_0 : decode cJ6_bitCount_0f7a4 0 = .ok (.iload_n 0, 1) := by decide +kernel
theorem dJ6_bitCount_0f7a4_1 : decode cJ6_bitCount_0f7a4 1 = .ok (.iload_n 0, 1) := by decide +kernel
theorem dJ6_bitCount_0f7a4_2 : decode cJ6_bitCount_0f7a4 2 = .ok (.iconst 1, 1) := by decide +kernel
theorem dJ6_bitCount_0f7a4_3 : decode cJ6_bitCount_0f7a4 3 = .ok (.iushr, 1) := by decide +kernel
theorem dJ6_bitCount_0f7a4_4 : decode cJ6_bitCount_0f7a4 4 = .ok (.ldc_w 265, 3) := by decide +kernel
theorem dJ6_bitCount_0f7a4_7 : decode cJ6_bitCount_0f7a4 7 = .ok (.iand, 1) := by decide +kernel
theorem dJ6_bitCount_0f7a4_8 : decode cJ6_bitCount_0f7a4 8 = .ok (.isub, 1) := by decide +kernel
theorem dJ6_bitCount_0f7a4_9 : decode cJ6_bitCount_0f7a4 9 = .ok (.istore_n 0, 1) := by decide +kernel
theorem dJ6_bitCount_0f7a4_10 : decode cJ6_bitCount_0f7a4 10 = .ok (.iload_n 0, 1) := by decide +kernel
theorem dJ6_bitCount_0f7a4_11 : decode cJ6_bitCount_0f7a4 11 = .ok (.ldc_w 266, 3) := by decide +kernel
theorem dJ6_bitCount_0f7a4_14 : decode cJ6_bitCount_0f7a4 14 = .ok (.iand, 1) := by decide +kernel
theorem dJ6_bitCount_0f7a4_15 : decode cJ6_bitCount_0f7a4 15 = .ok (.iload_n 0, 1) := by decide +kernel
theorem dJ6_bitCount_0f7a4_16 : decode cJ6_bitCount_0f7a4 16 = .ok (.iconst 2, 1) := by decide +kernel
theorem dJ6_bitCount_0f7a4_17 : decode cJ6_bitCount_0f7a4 17 = .ok (.iushr, 1) := by decide +kernel
theorem dJ6_bitCount_0f7a4_18 : decode cJ6_bitCount_0f7a4 18 = .ok (.ldc_w 266, 3) := by decide +kernel
theorem dJ6_bitCount_0f7a4_21 : decode cJ6_bitCount_0f7a4 21 = .ok (.iand, 1) := by decide +kernel
theorem dJ6_bitCount_0f7a4_22 : decode cJ6_bitCount_0f7a4 22 = .ok (.iadd, 1) := by decide +kernel
theorem dJ6_bitCount_0f7a4_23 : decode cJ6_bitCount_0f7a4 23 = .ok (.istore_n 0, 1) := by decide +kernel
theorem dJ6_bitCount_0f7a4_24 : decode cJ6_bitCount_0f7a4 24 = .ok (.iload_n 0, 1) := by decide +kernel
theorem dJ6_bitCount_0f7a4_25 : decode cJ6_bitCount_0f7a4 25 = .ok (.iload_n 0, 1) := by decide +kernel
theorem dJ6_bitCount_0f7a4_26 : decode cJ6_bitCount_0f7a4 26 = .ok (.iconst 4, 1) := by decide +kernel
theorem dJ6_bitCount_0f7a4_27 : decode cJ6_bitCount_0f7a4 27 = .ok (.iushr, 1) := by decide +kernel
theorem dJ6_bitCount_0f7a4_28 : decode cJ6_bitCount_0f7a4 28 = .ok (.iadd, 1) := by decide +kernel
theorem dJ6_bitCount_0f7a4_29 : decode cJ6_bitCount_0f7a4 29 = .ok (.ldc_w 267, 3) := by decide +kernel
theorem dJ6_bitCount_0f7a4_32 : decode cJ6_bitCount_0f7a4 32 = .ok (.iand, 1) := by decide +kernel
theorem dJ6_bitCount_0f7a4_33 : decode cJ6_bitCount_0f7a4 33 = .ok (.istore_n 0, 1) := by decide +kernel
theorem dJ6_bitCount_0f7a4_34 : decode cJ6_bitCount_0f7a4 34 = .ok (.iload_n 0, 1) := by decide +kernel
theorem dJ6_bitCount_0f7a4_35 : decode cJ6_bitCount_0f7a4 35 = .ok (.iload_n 0, 1) := by decide +kernel
theorem dJ6_bitCount_0f7a4_36 : decode cJ6_bitCount_0f7a4 36 = .ok (.bipush 8, 2) := by decide +kernel
theorem dJ6_bitCount_0f7a4_38 : decode cJ6_bitCount_0f7a4 38 = .ok (.iushr, 1) := by decide +kernel
theorem dJ6_bitCount_0f7a4_39 : decode cJ6_bitCount_0f7a4 39 = .ok (.iadd, 1) := by decide +kernel
theorem dJ6_bitCount_0f7a4_40 : decode cJ6_bitCount_0f7a4 40 = .ok (.istore_n 0, 1) := by decide +kernel
theorem dJ6_bitCount_0f7a4_41 : decode cJ6_bitCount_0f7a4 41 = .ok (.iload_n 0, 1) := by decide +kernel
theorem dJ6_bitCount_0f7a4_42 : decode cJ6_bitCount_0f7a4 42 = .ok (.iload_n 0, 1) := by decide +kernel
theorem dJ6_bitCount_0f7a4_43 : decode cJ6_bitCount_0f7a4 43 = .ok (.bipush 16, 2) := by decide +kernel
theorem dJ6_bitCount_0f7a4_45 : decode cJ6_bitCount_0f7a4 45 = .ok (.iushr, 1) := by decide +kernel
theorem dJ6_bitCount_0f7a4_46 : decode cJ6_bitCount_0f7a4 46 = .ok (.iadd, 1) := by decide +kernel
theorem dJ6_bitCount_0f7a4_47 : decode cJ6_bitCount_0f7a4 47 = .ok (.istore_n 0, 1) := by decide +kernel
theorem dJ6_bitCount_0f7a4_48 : decode cJ6_bitCount_0f7a4 48 = .ok (.iload_n 0, 1) := by decide +kernel
theorem dJ6_bitCount_0f7a4_49 : decode cJ6_bitCount_0f7a4 49 = .ok (.bipush 63, 2) := by decide +kernel
theorem dJ6_bitCount_0f7a4_51 : decode cJ6_bitCount_0f7a4 51 = .ok (.iand, 1) := by decide +kernel
theorem dJ6_bitCount_0f7a4_52 : decode cJ6_bitCount_0f7a4 52 = .ok (.ireturn, 1) := by decide +kernel
theorem dJ9_max_7cf53_0 : decode cJ9_max_7cf53 0 = .ok (.iload_n 0, 1) := by decide +kernel
theorem dJ9_max_7cf53_1 : decode cJ9_max_7cf53 1 = .ok (.iload_n 1, 1) := by decide +kernel
theorem dJ9_max_7cf53_2 : decode cJ9_max_7cf53 2 = .ok (.if_icmp .lt 7, 3) := by decide +kernel
theorem dJ9_max_7cf53_5 : decode cJ9_max_7cf53 5 = .ok (.iload_n 0, 1) := by decide +kernel
theorem dJ9_max_7cf53_6 : decode cJ9_max_7cf53 6 = .ok (.goto 4, 3) := by decide +kernel
theorem dJ9_max_7cf53_9 : decode cJ9_max_7cf53 9 = .ok (.iload_n 1, 1) := by decide +kernel
theorem dJ9_max_7cf53_10 : decode cJ9_max_7cf53 10 = .ok (.ireturn, 1) := by decide +kernel
theorem dJ9_min_7cf53_0 : decode cJ9_min_7cf53 0 = .ok (.iload_n 0, 1) := by decide +kernel
theorem dJ9_min_7cf53_1 : decode cJ9_min_7cf53 1 = .ok (.iload_n 1, 1) := by decide +kernel
theorem dJ9_min_7cf53_2 : decode cJ9_min_7cf53 2 = .ok (.if_icmp .gt 7, 3) := by decide +kernel
theorem dJ9_min_7cf53_5 : decode cJ9_min_7cf53 5 = .ok (.iload_n 0, 1) := by decide +kernel
theorem dJ9_min_7cf53_6 : decode cJ9_min_7cf53 6 = .ok (.goto 4, 3) := by decide +kernel
theorem dJ9_min_7cf53_9 : decode cJ9_min_7cf53 9 = .ok (.iload_n 1, 1) := by decide +kernel
theorem dJ9_min_7cf53_10 : decode cJ9_min_7cf53 10 = .ok (.ireturn, 1) := by decide +kernel
theorem dJ7_fill_53178_0 : decode cJ7_fill_53178 0 = .ok (.iconst 0, 1) := by decide +kernel
theorem dJ7_fill_53178_1 : decode cJ7_fill_53178 1 = .ok (.istore_n 2, 1) := by decide +kernel
theorem dJ7_fill_53178_2 : decode cJ7_fill_53178 2 = .ok (.aload_n 0, 1) := by decide +kernel
theorem dJ7_fill_53178_3 : decode cJ7_fill_53178 3 = .ok (.arraylength, 1) := by decide +kernel
theorem dJ7_fill_53178_4 : decode cJ7_fill_53178 4 = .ok (.istore_n 3, 1) := by decide +kernel
theorem dJ7_fill_53178_5 : decode cJ7_fill_53178 5 = .ok (.iload_n 2, 1) := by decide +kernel
theorem dJ7_fill_53178_6 : decode cJ7_fill_53178 6 = .ok (.iload_n 3, 1) := by decide +kernel
theorem dJ7_fill_53178_7 : decode cJ7_fill_53178 7 = .ok (.if_icmp .ge 13, 3) := by decide +kernel
theorem dJ7_fill_53178_10 : decode cJ7_fill_53178 10 = .ok (.aload_n 0, 1) := by decide +kernel
theorem dJ7_fill_53178_11 : decode cJ7_fill_53178 11 = .ok (.iload_n 2, 1) := by decide +kernel
theorem dJ7_fill_53178_12 : decode cJ7_fill_53178 12 = .ok (.iload_n 1, 1) := by decide +kernel
theorem dJ7_fill_53178_13 : decode cJ7_fill_53178 13 = .ok (.iastore, 1) := by decide +kernel
theorem dJ7_fill_53178_14 : decode cJ7_fill_53178 14 = .ok (.iinc 2 1, 3) := by decide +kernel
theorem dJ7_fill_53178_17 : decode cJ7_fill_53178 17 = .ok (.goto (-12), 3) := by decide +kernel
theorem dJ7_fill_53178_20 : decode cJ7_fill_53178 20 = .ok (.return_, 1) := by decide +kernel
theorem dL_law_0 : decode cL_law 0 = .ok (.new 7, 3) := by decide +kernel
theorem dL_law_3 : decode cL_law 3 = .ok (.dup, 1) := by decide +kernel
theorem dL_law_4 : decode cL_law 4 = .ok (.invokespecial 9, 3) := by decide +kernel
theorem dL_law_7 : decode cL_law 7 = .ok (.astore_n 1, 1) := by decide +kernel
theorem dL_law_8 : decode cL_law 8 = .ok (.new 10, 3) := by decide +kernel
theorem dL_law_11 : decode cL_law 11 = .ok (.dup, 1) := by decide +kernel
theorem dL_law_12 : decode cL_law 12 = .ok (.invokespecial 12, 3) := by decide +kernel
theorem dL_law_15 : decode cL_law 15 = .ok (.astore_n 2, 1) := by decide +kernel
theorem dL_law_16 : decode cL_law 16 = .ok (.iconst 0, 1) := by decide +kernel
theorem dL_law_17 : decode cL_law 17 = .ok (.istore_n 3, 1) := by decide +kernel
theorem dL_law_18 : decode cL_law 18 = .ok (.iload_n 3, 1) := by decide +kernel
theorem dL_law_19 : decode cL_law 19 = .ok (.aload_n 0, 1) := by decide +kernel
theorem dL_law_20 : decode cL_law 20 = .ok (.arraylength, 1) := by decide +kernel
theorem dL_law_21 : decode cL_law 21 = .ok (.iconst 4, 1) := by decide +kernel
theorem dL_law_22 : decode cL_law 22 = .ok (.isub, 1) := by decide +kernel
theorem dL_law_23 : decode cL_law 23 = .ok (.if_icmp .gt 574, 3) := by decide +kernel
theorem dL_law_26 : decode cL_law 26 = .ok (.aload_n 0, 1) := by decide +kernel
theorem dL_law_27 : decode cL_law 27 = .ok (.iload_n 3, 1) := by decide +kernel
theorem dL_law_28 : decode cL_law 28 = .ok (.iaload, 1) := by decide +kernel
theorem dL_law_29 : decode cL_law 29 = .ok (.bipush 31, 2) := by decide +kernel
theorem dL_law_31 : decode cL_law 31 = .ok (.iand, 1) := by decide +kernel
theorem dL_law_32 : decode cL_law 32 = .ok (.tableswitch 559 0 18 #[92, 115, 158, 181, 214, 247, 280, 313, 336, 359, 382, 415, 428, 451, 464, 487, 520, 533, 546], 92) := by decide +kernel
theorem dL_law_124 : decode cL_law 124 = .ok (.aload_n 1, 1) := by decide +kernel
theorem dL_law_125 : decode cL_law 125 = .ok (.aload_n 0, 1) := by decide +kernel
theorem dL_law_126 : decode cL_law 126 = .ok (.iload_n 3, 1) := by decide +kernel
theorem dL_law_127 : decode cL_law 127 = .ok (.iconst 1, 1) := by decide +kernel
theorem dL_law_128 : decode cL_law 128 = .ok (.iadd, 1) := by decide +kernel
theorem dL_law_129 : decode cL_law 129 = .ok (.iaload, 1) := by decide +kernel
theorem dL_law_130 : decode cL_law 130 = .ok (.invokevirtual 13, 3) := by decide +kernel
theorem dL_law_133 : decode cL_law 133 = .ok (.aload_n 2, 1) := by decide +kernel
theorem dL_law_134 : decode cL_law 134 = .ok (.aload_n 0, 1) := by decide +kernel
theorem dL_law_135 : decode cL_law 135 = .ok (.iload_n 3, 1) := by decide +kernel
theorem dL_law_136 : decode cL_law 136 = .ok (.iconst 1, 1) := by decide +kernel
theorem dL_law_137 : decode cL_law 137 = .ok (.iadd, 1) := by decide +kernel
theorem dL_law_138 : decode cL_law 138 = .ok (.iaload, 1) := by decide +kernel
theorem dL_law_139 : decode cL_law 139 = .ok (.invokevirtual 17, 3) := by decide +kernel
theorem dL_law_142 : decode cL_law 142 = .ok (.if_icmp .eq 449, 3) := by decide +kernel
theorem dL_law_145 : decode cL_law 145 = .ok (.iconst 0, 1) := by decide +kernel
theorem dL_law_146 : decode cL_law 146 = .ok (.ireturn, 1) := by decide +kernel
theorem dL_law_147 : decode cL_law 147 = .ok (.aload_n 1, 1) := by decide +kernel
theorem dL_law_148 : decode cL_law 148 = .ok (.aload_n 0, 1) := by decide +kernel
theorem dL_law_149 : decode cL_law 149 = .ok (.iload_n 3, 1) := by decide +kernel
theorem dL_law_150 : decode cL_law 150 = .ok (.iconst 1, 1) := by decide +kernel
theorem dL_law_151 : decode cL_law 151 = .ok (.iadd, 1) := by decide +kernel
theorem dL_law_152 : decode cL_law 152 = .ok (.iaload, 1) := by decide +kernel
theorem dL_law_153 : decode cL_law 153 = .ok (.aload_n 0, 1) := by decide +kernel
theorem dL_law_154 : decode cL_law 154 = .ok (.iload_n 3, 1) := by decide +kernel
theorem dL_law_155 : decode cL_law 155 = .ok (.iconst 2, 1) := by decide +kernel
theorem dL_law_156 : decode cL_law 156 = .ok (.iadd, 1) := by decide +kernel
theorem dL_law_157 : decode cL_law 157 = .ok (.iaload, 1) := by decide +kernel
theorem dL_law_158 : decode cL_law 158 = .ok (.aload_n 0, 1) := by decide +kernel
theorem dL_law_159 : decode cL_law 159 = .ok (.iload_n 3, 1) := by decide +kernel
theorem dL_law_160 : decode cL_law 160 = .ok (.iconst 3, 1) := by decide +kernel
theorem dL_law_161 : decode cL_law 161 = .ok (.iadd, 1) := by decide +kernel
theorem dL_law_162 : decode cL_law 162 = .ok (.iaload, 1) := by decide +kernel
theorem dL_law_163 : decode cL_law 163 = .ok (.invokevirtual 18, 3) := by decide +kernel
theorem dL_law_166 : decode cL_law 166 = .ok (.aload_n 2, 1) := by decide +kernel
theorem dL_law_167 : decode cL_law 167 = .ok (.aload_n 0, 1) := by decide +kernel
theorem dL_law_168 : decode cL_law 168 = .ok (.iload_n 3, 1) := by decide +kernel
theorem dL_law_169 : decode cL_law 169 = .ok (.iconst 1, 1) := by decide +kernel
theorem dL_law_170 : decode cL_law 170 = .ok (.iadd, 1) := by decide +kernel
theorem dL_law_171 : decode cL_law 171 = .ok (.iaload, 1) := by decide +kernel
theorem dL_law_172 : decode cL_law 172 = .ok (.aload_n 0, 1) := by decide +kernel
theorem dL_law_173 : decode cL_law 173 = .ok (.iload_n 3, 1) := by decide +kernel
theorem dL_law_174 : decode cL_law 174 = .ok (.iconst 2, 1) := by decide +kernel
theorem dL_law_175 : decode cL_law 175 = .ok (.iadd, 1) := by decide +kernel
theorem dL_law_176 : decode cL_law 176 = .ok (.iaload, 1) := by decide +kernel
theorem dL_law_177 : decode cL_law 177 = .ok (.aload_n 0, 1) := by decide +kernel
theorem dL_law_178 : decode cL_law 178 = .ok (.iload_n 3, 1) := by decide +kernel
theorem dL_law_179 : decode cL_law 179 = .ok (.iconst 3, 1) := by decide +kernel
theorem dL_law_180 : decode cL_law 180 = .ok (.iadd, 1) := by decide +kernel
theorem dL_law_181 : decode cL_law 181 = .ok (.iaload, 1) := by decide +kernel
theorem dL_law_182 : decode cL_law 182 = .ok (.invokevirtual 22, 3) := by decide +kernel
theorem dL_law_185 : decode cL_law 185 = .ok (.if_icmp .eq 406, 3) := by decide +kernel
theorem dL_law_188 : decode cL_law 188 = .ok (.iconst 0, 1) := by decide +kernel
theorem dL_law_189 : decode cL_law 189 = .ok (.ireturn, 1) := by decide +kernel
theorem dL_law_190 : decode cL_law 190 = .ok (.aload_n 1, 1) := by decide +kernel
theorem dL_law_191 : decode cL_law 191 = .ok (.aload_n 0, 1) := by decide +kernel
theorem dL_law_192 : decode cL_law 192 = .ok (.iload_n 3, 1) := by decide +kernel
theorem dL_law_193 : decode cL_law 193 = .ok (.iconst 1, 1) := by decide +kernel
theorem dL_law_194 : decode cL_law 194 = .ok (.iadd, 1) := by decide +kernel
theorem dL_law_195 : decode cL_law 195 = .ok (.iaload, 1) := by decide +kernel
theorem dL_law_196 : decode cL_law 196 = .ok (.invokevirtual 23, 3) := by decide +kernel
theorem dL_law_199 : decode cL_law 199 = .ok (.aload_n 2, 1) := by decide +kernel
theorem dL_law_200 : decode cL_law 200 = .ok (.aload_n 0, 1) := by decide +kernel
theorem dL_law_201 : decode cL_law 201 = .ok (.iload_n 3, 1) := by decide +kernel
theorem dL_law_202 : decode cL_law 202 = .ok (.iconst 1, 1) := by decide +kernel
theorem dL_law_203 : decode cL_law 203 = .ok (.iadd, 1) := by decide +kernel
theorem dL_law_204 : decode cL_law 204 = .ok (.iaload, 1) := by decide +kernel
theorem dL_law_205 : decode cL_law 205 = .ok (.invokevirtual 26, 3) := by decide +kernel
theorem dL_law_208 : decode cL_law 208 = .ok (.if_icmp .eq 383, 3) := by decide +kernel
theorem dL_law_211 : decode cL_law 211 = .ok (.iconst 0, 1) := by decide +kernel
theorem dL_law_212 : decode cL_law 212 = .ok (.ireturn, 1) := by decide +kernel
theorem dL_law_213 : decode cL_law 213 = .ok (.aload_n 1, 1) := by decide +kernel
theorem dL_law_214 : decode cL_law 214 = .ok (.aload_n 0, 1) := by decide +kernel
theorem dL_law_215 : decode cL_law 215 = .ok (.iload_n 3, 1) := by decide +kernel
theorem dL_law_216 : decode cL_law 216 = .ok (.iconst 1, 1) := by decide +kernel
theorem dL_law_217 : decode cL_law 217 = .ok (.iadd, 1) := by decide +kernel
theorem dL_law_218 : decode cL_law 218 = .ok (.iaload, 1) := by decide +kernel
theorem dL_law_219 : decode cL_law 219 = .ok (.aload_n 0, 1) := by decide +kernel
theorem dL_law_220 : decode cL_law 220 = .ok (.iload_n 3, 1) := by decide +kernel
theorem dL_law_221 : decode cL_law 221 = .ok (.iconst 2, 1) := by decide +kernel
theorem dL_law_222 : decode cL_law 222 = .ok (.iadd, 1) := by decide +kernel
theorem dL_law_223 : decode cL_law 223 = .ok (.iaload, 1) := by decide +kernel
theorem dL_law_224 : decode cL_law 224 = .ok (.invokevirtual 27, 3) := by decide +kernel
theorem dL_law_227 : decode cL_law 227 = .ok (.aload_n 2, 1) := by decide +kernel
theorem dL_law_228 : decode cL_law 228 = .ok (.aload_n 0, 1) := by decide +kernel
theorem dL_law_229 : decode cL_law 229 = .ok (.iload_n 3, 1) := by decide +kernel
theorem dL_law_230 : decode cL_law 230 = .ok (.iconst 1, 1) := by decide +kernel
theorem dL_law_231 : decode cL_law 231 = .ok (.iadd, 1) := by decide +kernel
theorem dL_law_232 : decode cL_law 232 = .ok (.iaload, 1) := by decide +kernel
theorem dL_law_233 : decode cL_law 233 = .ok (.aload_n 0, 1) := by decide +kernel
theorem dL_law_234 : decode cL_law 234 = .ok (.iload_n 3, 1) := by decide +kernel
theorem dL_law_235 : decode cL_law 235 = .ok (.iconst 2, 1) := by decide +kernel
theorem dL_law_236 : decode cL_law 236 = .ok (.iadd, 1) := by decide +kernel
theorem dL_law_237 : decode cL_law 237 = .ok (.iaload, 1) := by decide +kernel
theorem dL_law_238 : decode cL_law 238 = .ok (.invokevirtual 31, 3) := by decide +kernel
theorem dL_law_241 : decode cL_law 241 = .ok (.if_icmp .eq 350, 3) := by decide +kernel
theorem dL_law_244 : decode cL_law 244 = .ok (.iconst 0, 1) := by decide +kernel
theorem dL_law_245 : decode cL_law 245 = .ok (.ireturn, 1) := by decide +kernel
theorem dL_law_246 : decode cL_law 246 = .ok (.aload_n 1, 1) := by decide +kernel
theorem dL_law_247 : decode cL_law 247 = .ok (.aload_n 0, 1) := by decide +kernel
theorem dL_law_248 : decode cL_law 248 = .ok (.iload_n 3, 1) := by decide +kernel
theorem dL_law_249 : decode cL_law 249 = .ok (.iconst 1, 1) := by decide +kernel
theorem dL_law_250 : decode cL_law 250 = .ok (.iadd, 1) := by decide +kernel
theorem dL_law_251 : decode cL_law 251 = .ok (.iaload, 1) := by decide +kernel
theorem dL_law_252 : decode cL_law 252 = .ok (.aload_n 0, 1) := by decide +kernel
theorem dL_law_253 : decode cL_law 253 = .ok (.iload_n 3, 1) := by decide +kernel
theorem dL_law_254 : decode cL_law 254 = .ok (.iconst 2, 1) := by decide +kernel
theorem dL_law_255 : decode cL_law 255 = .ok (.iadd, 1) := by decide +kernel
theorem dL_law_256 : decode cL_law 256 = .ok (.iaload, 1) := by decide +kernel
theorem dL_law_257 : decode cL_law 257 = .ok (.invokevirtual 32, 3) := by decide +kernel
theorem dL_law_260 : decode cL_law 260 = .ok (.aload_n 2, 1) := by decide +kernel
theorem dL_law_261 : decode cL_law 261 = .ok (.aload_n 0, 1) := by decide +kernel
theorem dL_law_262 : decode cL_law 262 = .ok (.iload_n 3, 1) := by decide +kernel
theorem dL_law_263 : decode cL_law 263 = .ok (.iconst 1, 1) := by decide +kernel
theorem dL_law_264 : decode cL_law 264 = .ok (.iadd, 1) := by decide +kernel
theorem dL_law_265 : decode cL_law 265 = .ok (.iaload, 1) := by decide +kernel
theorem dL_law_266 : decode cL_law 266 = .ok (.aload_n 0, 1) := by decide +kernel
theorem dL_law_267 : decode cL_law 267 = .ok (.iload_n 3, 1) := by decide +kernel
theorem dL_law_268 : decode cL_law 268 = .ok (.iconst 2, 1) := by decide +kernel
theorem dL_law_269 : decode cL_law 269 = .ok (.iadd, 1) := by decide +kernel
theorem dL_law_270 : decode cL_law 270 = .ok (.iaload, 1) := by decide +kernel
theorem dL_law_271 : decode cL_law 271 = .ok (.invokevirtual 35, 3) := by decide +kernel
theorem dL_law_274 : decode cL_law 274 = .ok (.if_icmp .eq 317, 3) := by decide +kernel
theorem dL_law_277 : decode cL_law 277 = .ok (.iconst 0, 1) := by decide +kernel
theorem dL_law_278 : decode cL_law 278 = .ok (.ireturn, 1) := by decide +kernel
theorem dL_law_279 : decode cL_law 279 = .ok (.aload_n 1, 1) := by decide +kernel
theorem dL_law_280 : decode cL_law 280 = .ok (.aload_n 0, 1) := by decide +kernel
theorem dL_law_281 : decode cL_law 281 = .ok (.iload_n 3, 1) := by decide +kernel
theorem dL_law_282 : decode cL_law 282 = .ok (.iconst 1, 1) := by decide +kernel
theorem dL_law_283 : decode cL_law 283 = .ok (.iadd, 1) := by decide +kernel
theorem dL_law_284 : decode cL_law 284 = .ok (.iaload, 1) := by decide +kernel
theorem dL_law_285 : decode cL_law 285 = .ok (.aload_n 0, 1) := by decide +kernel
theorem dL_law_286 : decode cL_law 286 = .ok (.iload_n 3, 1) := by decide +kernel
theorem dL_law_287 : decode cL_law 287 = .ok (.iconst 2, 1) := by decide +kernel
theorem dL_law_288 : decode cL_law 288 = .ok (.iadd, 1) := by decide +kernel
theorem dL_law_289 : decode cL_law 289 = .ok (.iaload, 1) := by decide +kernel
theorem dL_law_290 : decode cL_law 290 = .ok (.invokevirtual 36, 3) := by decide +kernel
theorem dL_law_293 : decode cL_law 293 = .ok (.aload_n 2, 1) := by decide +kernel
theorem dL_law_294 : decode cL_law 294 = .ok (.aload_n 0, 1) := by decide +kernel
theorem dL_law_295 : decode cL_law 295 = .ok (.iload_n 3, 1) := by decide +kernel
theorem dL_law_296 : decode cL_law 296 = .ok (.iconst 1, 1) := by decide +kernel
theorem dL_law_297 : decode cL_law 297 = .ok (.iadd, 1) := by decide +kernel
theorem dL_law_298 : decode cL_law 298 = .ok (.iaload, 1) := by decide +kernel
theorem dL_law_299 : decode cL_law 299 = .ok (.aload_n 0, 1) := by decide +kernel
theorem dL_law_300 : decode cL_law 300 = .ok (.iload_n 3, 1) := by decide +kernel
theorem dL_law_301 : decode cL_law 301 = .ok (.iconst 2, 1) := by decide +kernel
theorem dL_law_302 : decode cL_law 302 = .ok (.iadd, 1) := by decide +kernel
theorem dL_law_303 : decode cL_law 303 = .ok (.iaload, 1) := by decide +kernel
theorem dL_law_304 : decode cL_law 304 = .ok (.invokevirtual 39, 3) := by decide +kernel
theorem dL_law_307 : decode cL_law 307 = .ok (.if_icmp .eq 284, 3) := by decide +kernel
theorem dL_law_310 : decode cL_law 310 = .ok (.iconst 0, 1) := by decide +kernel
theorem dL_law_311 : decode cL_law 311 = .ok (.ireturn, 1) := by decide +kernel
theorem dL_law_312 : decode cL_law 312 = .ok (.aload_n 1, 1) := by decide +kernel
theorem dL_law_313 : decode cL_law 313 = .ok (.aload_n 0, 1) := by decide +kernel
theorem dL_law_314 : decode cL_law 314 = .ok (.iload_n 3, 1) := by decide +kernel
theorem dL_law_315 : decode cL_law 315 = .ok (.iconst 1, 1) := by decide +kernel
theorem dL_law_316 : decode cL_law 316 = .ok (.iadd, 1) := by decide +kernel
theorem dL_law_317 : decode cL_law 317 = .ok (.iaload, 1) := by decide +kernel
theorem dL_law_318 : decode cL_law 318 = .ok (.aload_n 0, 1) := by decide +kernel
theorem dL_law_319 : decode cL_law 319 = .ok (.iload_n 3, 1) := by decide +kernel
theorem dL_law_320 : decode cL_law 320 = .ok (.iconst 2, 1) := by decide +kernel
theorem dL_law_321 : decode cL_law 321 = .ok (.iadd, 1) := by decide +kernel
theorem dL_law_322 : decode cL_law 322 = .ok (.iaload, 1) := by decide +kernel
theorem dL_law_323 : decode cL_law 323 = .ok (.invokevirtual 40, 3) := by decide +kernel
theorem dL_law_326 : decode cL_law 326 = .ok (.aload_n 2, 1) := by decide +kernel
theorem dL_law_327 : decode cL_law 327 = .ok (.aload_n 0, 1) := by decide +kernel
theorem dL_law_328 : decode cL_law 328 = .ok (.iload_n 3, 1) := by decide +kernel
theorem dL_law_329 : decode cL_law 329 = .ok (.iconst 1, 1) := by decide +kernel
theorem dL_law_330 : decode cL_law 330 = .ok (.iadd, 1) := by decide +kernel
theorem dL_law_331 : decode cL_law 331 = .ok (.iaload, 1) := by decide +kernel
theorem dL_law_332 : decode cL_law 332 = .ok (.aload_n 0, 1) := by decide +kernel
theorem dL_law_333 : decode cL_law 333 = .ok (.iload_n 3, 1) := by decide +kernel
theorem dL_law_334 : decode cL_law 334 = .ok (.iconst 2, 1) := by decide +kernel
theorem dL_law_335 : decode cL_law 335 = .ok (.iadd, 1) := by decide +kernel
theorem dL_law_336 : decode cL_law 336 = .ok (.iaload, 1) := by decide +kernel
theorem dL_law_337 : decode cL_law 337 = .ok (.invokevirtual 43, 3) := by decide +kernel
theorem dL_law_340 : decode cL_law 340 = .ok (.if_icmp .eq 251, 3) := by decide +kernel
theorem dL_law_343 : decode cL_law 343 = .ok (.iconst 0, 1) := by decide +kernel
theorem dL_law_344 : decode cL_law 344 = .ok (.ireturn, 1) := by decide +kernel
theorem dL_law_345 : decode cL_law 345 = .ok (.aload_n 1, 1) := by decide +kernel
theorem dL_law_346 : decode cL_law 346 = .ok (.aload_n 0, 1) := by decide +kernel
theorem dL_law_347 : decode cL_law 347 = .ok (.iload_n 3, 1) := by decide +kernel
theorem dL_law_348 : decode cL_law 348 = .ok (.iconst 1, 1) := by decide +kernel
theorem dL_law_349 : decode cL_law 349 = .ok (.iadd, 1) := by decide +kernel
theorem dL_law_350 : decode cL_law 350 = .ok (.iaload, 1) := by decide +kernel
theorem dL_law_351 : decode cL_law 351 = .ok (.invokevirtual 44, 3) := by decide +kernel
theorem dL_law_354 : decode cL_law 354 = .ok (.aload_n 2, 1) := by decide +kernel
theorem dL_law_355 : decode cL_law 355 = .ok (.aload_n 0, 1) := by decide +kernel
theorem dL_law_356 : decode cL_law 356 = .ok (.iload_n 3, 1) := by decide +kernel
theorem dL_law_357 : decode cL_law 357 = .ok (.iconst 1, 1) := by decide +kernel
theorem dL_law_358 : decode cL_law 358 = .ok (.iadd, 1) := by decide +kernel
theorem dL_law_359 : decode cL_law 359 = .ok (.iaload, 1) := by decide +kernel
theorem dL_law_360 : decode cL_law 360 = .ok (.invokevirtual 47, 3) := by decide +kernel
theorem dL_law_363 : decode cL_law 363 = .ok (.if_icmp .eq 228, 3) := by decide +kernel
theorem dL_law_366 : decode cL_law 366 = .ok (.iconst 0, 1) := by decide +kernel
theorem dL_law_367 : decode cL_law 367 = .ok (.ireturn, 1) := by decide +kernel
theorem dL_law_368 : decode cL_law 368 = .ok (.aload_n 1, 1) := by decide +kernel
theorem dL_law_369 : decode cL_law 369 = .ok (.aload_n 0, 1) := by decide +kernel
theorem dL_law_370 : decode cL_law 370 = .ok (.iload_n 3, 1) := by decide +kernel
theorem dL_law_371 : decode cL_law 371 = .ok (.iconst 1, 1) := by decide +kernel
theorem dL_law_372 : decode cL_law 372 = .ok (.iadd, 1) := by decide +kernel
theorem dL_law_373 : decode cL_law 373 = .ok (.iaload, 1) := by decide +kernel
theorem dL_law_374 : decode cL_law 374 = .ok (.invokevirtual 48, 3) := by decide +kernel
theorem dL_law_377 : decode cL_law 377 = .ok (.aload_n 2, 1) := by decide +kernel
theorem dL_law_378 : decode cL_law 378 = .ok (.aload_n 0, 1) := by decide +kernel
theorem dL_law_379 : decode cL_law 379 = .ok (.iload_n 3, 1) := by decide +kernel
theorem dL_law_380 : decode cL_law 380 = .ok (.iconst 1, 1) := by decide +kernel
theorem dL_law_381 : decode cL_law 381 = .ok (.iadd, 1) := by decide +kernel
theorem dL_law_382 : decode cL_law 382 = .ok (.iaload, 1) := by decide +kernel
theorem dL_law_383 : decode cL_law 383 = .ok (.invokevirtual 51, 3) := by decide +kernel
theorem dL_law_386 : decode cL_law 386 = .ok (.if_icmp .eq 205, 3) := by decide +kernel
theorem dL_law_389 : decode cL_law 389 = .ok (.iconst 0, 1) := by decide +kernel
theorem dL_law_390 : decode cL_law 390 = .ok (.ireturn, 1) := by decide +kernel
theorem dL_law_391 : decode cL_law 391 = .ok (.aload_n 1, 1) := by decide +kernel
theorem dL_law_392 : decode cL_law 392 = .ok (.aload_n 0, 1) := by decide +kernel
theorem dL_law_393 : decode cL_law 393 = .ok (.iload_n 3, 1) := by decide +kernel
theorem dL_law_394 : decode cL_law 394 = .ok (.iconst 1, 1) := by decide +kernel
theorem dL_law_395 : decode cL_law 395 = .ok (.iadd, 1) := by decide +kernel
theorem dL_law_396 : decode cL_law 396 = .ok (.iaload, 1) := by decide +kernel
theorem dL_law_397 : decode cL_law 397 = .ok (.invokevirtual 52, 3) := by decide +kernel
theorem dL_law_400 : decode cL_law 400 = .ok (.aload_n 2, 1) := by decide +kernel
theorem dL_law_401 : decode cL_law 401 = .ok (.aload_n 0, 1) := by decide +kernel
theorem dL_law_402 : decode cL_law 402 = .ok (.iload_n 3, 1) := by decide +kernel
theorem dL_law_403 : decode cL_law 403 = .ok (.iconst 1, 1) := by decide +kernel
theorem dL_law_404 : decode cL_law 404 = .ok (.iadd, 1) := by decide +kernel
theorem dL_law_405 : decode cL_law 405 = .ok (.iaload, 1) := by decide +kernel
theorem dL_law_406 : decode cL_law 406 = .ok (.invokevirtual 55, 3) := by decide +kernel
theorem dL_law_409 : decode cL_law 409 = .ok (.if_icmp .eq 182, 3) := by decide +kernel
theorem dL_law_412 : decode cL_law 412 = .ok (.iconst 0, 1) := by decide +kernel
theorem dL_law_413 : decode cL_law 413 = .ok (.ireturn, 1) := by decide +kernel
theorem dL_law_414 : decode cL_law 414 = .ok (.aload_n 1, 1) := by decide +kernel
theorem dL_law_415 : decode cL_law 415 = .ok (.aload_n 0, 1) := by decide +kernel
theorem dL_law_416 : decode cL_law 416 = .ok (.iload_n 3, 1) := by decide +kernel
theorem dL_law_417 : decode cL_law 417 = .ok (.iconst 1, 1) := by decide +kernel
theorem dL_law_418 : decode cL_law 418 = .ok (.iadd, 1) := by decide +kernel
theorem dL_law_419 : decode cL_law 419 = .ok (.iaload, 1) := by decide +kernel
theorem dL_law_420 : decode cL_law 420 = .ok (.aload_n 0, 1) := by decide +kernel
theorem dL_law_421 : decode cL_law 421 = .ok (.iload_n 3, 1) := by decide +kernel
theorem dL_law_422 : decode cL_law 422 = .ok (.iconst 2, 1) := by decide +kernel
theorem dL_law_423 : decode cL_law 423 = .ok (.iadd, 1) := by decide +kernel
theorem dL_law_424 : decode cL_law 424 = .ok (.iaload, 1) := by decide +kernel
theorem dL_law_425 : decode cL_law 425 = .ok (.invokevirtual 56, 3) := by decide +kernel
theorem dL_law_428 : decode cL_law 428 = .ok (.aload_n 2, 1) := by decide +kernel
theorem dL_law_429 : decode cL_law 429 = .ok (.aload_n 0, 1) := by decide +kernel
theorem dL_law_430 : decode cL_law 430 = .ok (.iload_n 3, 1) := by decide +kernel
theorem dL_law_431 : decode cL_law 431 = .ok (.iconst 1, 1) := by decide +kernel
theorem dL_law_432 : decode cL_law 432 = .ok (.iadd, 1) := by decide +kernel
theorem dL_law_433 : decode cL_law 433 = .ok (.iaload, 1) := by decide +kernel
theorem dL_law_434 : decode cL_law 434 = .ok (.aload_n 0, 1) := by decide +kernel
theorem dL_law_435 : decode cL_law 435 = .ok (.iload_n 3, 1) := by decide +kernel
theorem dL_law_436 : decode cL_law 436 = .ok (.iconst 2, 1) := by decide +kernel
theorem dL_law_437 : decode cL_law 437 = .ok (.iadd, 1) := by decide +kernel
theorem dL_law_438 : decode cL_law 438 = .ok (.iaload, 1) := by decide +kernel
theorem dL_law_439 : decode cL_law 439 = .ok (.invokevirtual 59, 3) := by decide +kernel
theorem dL_law_442 : decode cL_law 442 = .ok (.if_icmp .eq 149, 3) := by decide +kernel
theorem dL_law_445 : decode cL_law 445 = .ok (.iconst 0, 1) := by decide +kernel
theorem dL_law_446 : decode cL_law 446 = .ok (.ireturn, 1) := by decide +kernel
theorem dL_law_447 : decode cL_law 447 = .ok (.aload_n 1, 1) := by decide +kernel
theorem dL_law_448 : decode cL_law 448 = .ok (.invokevirtual 60, 3) := by decide +kernel
theorem dL_law_451 : decode cL_law 451 = .ok (.aload_n 2, 1) := by decide +kernel
theorem dL_law_452 : decode cL_law 452 = .ok (.invokevirtual 64, 3) := by decide +kernel
theorem dL_law_455 : decode cL_law 455 = .ok (.if_icmp .eq 136, 3) := by decide +kernel
theorem dL_law_458 : decode cL_law 458 = .ok (.iconst 0, 1) := by decide +kernel
theorem dL_law_459 : decode cL_law 459 = .ok (.ireturn, 1) := by decide +kernel
theorem dL_law_460 : decode cL_law 460 = .ok (.aload_n 1, 1) := by decide +kernel
theorem dL_law_461 : decode cL_law 461 = .ok (.aload_n 0, 1) := by decide +kernel
theorem dL_law_462 : decode cL_law 462 = .ok (.iload_n 3, 1) := by decide +kernel
theorem dL_law_463 : decode cL_law 463 = .ok (.iconst 1, 1) := by decide +kernel
theorem dL_law_464 : decode cL_law 464 = .ok (.iadd, 1) := by decide +kernel
theorem dL_law_465 : decode cL_law 465 = .ok (.iaload, 1) := by decide +kernel
theorem dL_law_466 : decode cL_law 466 = .ok (.invokevirtual 65, 3) := by decide +kernel
theorem dL_law_469 : decode cL_law 469 = .ok (.aload_n 2, 1) := by decide +kernel
theorem dL_law_470 : decode cL_law 470 = .ok (.aload_n 0, 1) := by decide +kernel
theorem dL_law_471 : decode cL_law 471 = .ok (.iload_n 3, 1) := by decide +kernel
theorem dL_law_472 : decode cL_law 472 = .ok (.iconst 1, 1) := by decide +kernel
theorem dL_law_473 : decode cL_law 473 = .ok (.iadd, 1) := by decide +kernel
theorem dL_law_474 : decode cL_law 474 = .ok (.iaload, 1) := by decide +kernel
theorem dL_law_475 : decode cL_law 475 = .ok (.invokevirtual 68, 3) := by decide +kernel
theorem dL_law_478 : decode cL_law 478 = .ok (.if_icmp .eq 113, 3) := by decide +kernel
theorem dL_law_481 : decode cL_law 481 = .ok (.iconst 0, 1) := by decide +kernel
theorem dL_law_482 : decode cL_law 482 = .ok (.ireturn, 1) := by decide +kernel
theorem dL_law_483 : decode cL_law 483 = .ok (.aload_n 1, 1) := by decide +kernel
theorem dL_law_484 : decode cL_law 484 = .ok (.invokevirtual 69, 3) := by decide +kernel
theorem dL_law_487 : decode cL_law 487 = .ok (.aload_n 2, 1) := by decide +kernel
theorem dL_law_488 : decode cL_law 488 = .ok (.invokevirtual 72, 3) := by decide +kernel
theorem dL_law_491 : decode cL_law 491 = .ok (.if_icmp .eq 100, 3) := by decide +kernel
theorem dL_law_494 : decode cL_law 494 = .ok (.iconst 0, 1) := by decide +kernel
theorem dL_law_495 : decode cL_law 495 = .ok (.ireturn, 1) := by decide +kernel
theorem dL_law_496 : decode cL_law 496 = .ok (.aload_n 1, 1) := by decide +kernel
theorem dL_law_497 : decode cL_law 497 = .ok (.aload_n 0, 1) := by decide +kernel
theorem dL_law_498 : decode cL_law 498 = .ok (.iload_n 3, 1) := by decide +kernel
theorem dL_law_499 : decode cL_law 499 = .ok (.iconst 1, 1) := by decide +kernel
theorem dL_law_500 : decode cL_law 500 = .ok (.iadd, 1) := by decide +kernel
theorem dL_law_501 : decode cL_law 501 = .ok (.iaload, 1) := by decide +kernel
theorem dL_law_502 : decode cL_law 502 = .ok (.invokevirtual 73, 3) := by decide +kernel
theorem dL_law_505 : decode cL_law 505 = .ok (.aload_n 2, 1) := by decide +kernel
theorem dL_law_506 : decode cL_law 506 = .ok (.aload_n 0, 1) := by decide +kernel
theorem dL_law_507 : decode cL_law 507 = .ok (.iload_n 3, 1) := by decide +kernel
theorem dL_law_508 : decode cL_law 508 = .ok (.iconst 1, 1) := by decide +kernel
theorem dL_law_509 : decode cL_law 509 = .ok (.iadd, 1) := by decide +kernel
theorem dL_law_510 : decode cL_law 510 = .ok (.iaload, 1) := by decide +kernel
theorem dL_law_511 : decode cL_law 511 = .ok (.invokevirtual 76, 3) := by decide +kernel
theorem dL_law_514 : decode cL_law 514 = .ok (.if_icmp .eq 77, 3) := by decide +kernel
theorem dL_law_517 : decode cL_law 517 = .ok (.iconst 0, 1) := by decide +kernel
theorem dL_law_518 : decode cL_law 518 = .ok (.ireturn, 1) := by decide +kernel
theorem dL_law_519 : decode cL_law 519 = .ok (.aload_n 1, 1) := by decide +kernel
theorem dL_law_520 : decode cL_law 520 = .ok (.aload_n 0, 1) := by decide +kernel
theorem dL_law_521 : decode cL_law 521 = .ok (.iload_n 3, 1) := by decide +kernel
theorem dL_law_522 : decode cL_law 522 = .ok (.iconst 1, 1) := by decide +kernel
theorem dL_law_523 : decode cL_law 523 = .ok (.iadd, 1) := by decide +kernel
theorem dL_law_524 : decode cL_law 524 = .ok (.iaload, 1) := by decide +kernel
theorem dL_law_525 : decode cL_law 525 = .ok (.aload_n 0, 1) := by decide +kernel
theorem dL_law_526 : decode cL_law 526 = .ok (.iload_n 3, 1) := by decide +kernel
theorem dL_law_527 : decode cL_law 527 = .ok (.iconst 2, 1) := by decide +kernel
theorem dL_law_528 : decode cL_law 528 = .ok (.iadd, 1) := by decide +kernel
theorem dL_law_529 : decode cL_law 529 = .ok (.iaload, 1) := by decide +kernel
theorem dL_law_530 : decode cL_law 530 = .ok (.invokevirtual 77, 3) := by decide +kernel
theorem dL_law_533 : decode cL_law 533 = .ok (.aload_n 2, 1) := by decide +kernel
theorem dL_law_534 : decode cL_law 534 = .ok (.aload_n 0, 1) := by decide +kernel
theorem dL_law_535 : decode cL_law 535 = .ok (.iload_n 3, 1) := by decide +kernel
theorem dL_law_536 : decode cL_law 536 = .ok (.iconst 1, 1) := by decide +kernel
theorem dL_law_537 : decode cL_law 537 = .ok (.iadd, 1) := by decide +kernel
theorem dL_law_538 : decode cL_law 538 = .ok (.iaload, 1) := by decide +kernel
theorem dL_law_539 : decode cL_law 539 = .ok (.aload_n 0, 1) := by decide +kernel
theorem dL_law_540 : decode cL_law 540 = .ok (.iload_n 3, 1) := by decide +kernel
theorem dL_law_541 : decode cL_law 541 = .ok (.iconst 2, 1) := by decide +kernel
theorem dL_law_542 : decode cL_law 542 = .ok (.iadd, 1) := by decide +kernel
theorem dL_law_543 : decode cL_law 543 = .ok (.iaload, 1) := by decide +kernel
theorem dL_law_544 : decode cL_law 544 = .ok (.invokevirtual 80, 3) := by decide +kernel
theorem dL_law_547 : decode cL_law 547 = .ok (.if_icmp .eq 44, 3) := by decide +kernel
theorem dL_law_550 : decode cL_law 550 = .ok (.iconst 0, 1) := by decide +kernel
theorem dL_law_551 : decode cL_law 551 = .ok (.ireturn, 1) := by decide +kernel
theorem dL_law_552 : decode cL_law 552 = .ok (.aload_n 1, 1) := by decide +kernel
theorem dL_law_553 : decode cL_law 553 = .ok (.invokevirtual 81, 3) := by decide +kernel
theorem dL_law_556 : decode cL_law 556 = .ok (.aload_n 2, 1) := by decide +kernel
theorem dL_law_557 : decode cL_law 557 = .ok (.invokevirtual 84, 3) := by decide +kernel
theorem dL_law_560 : decode cL_law 560 = .ok (.if_icmp .eq 31, 3) := by decide +kernel
theorem dL_law_563 : decode cL_law 563 = .ok (.iconst 0, 1) := by decide +kernel
theorem dL_law_564 : decode cL_law 564 = .ok (.ireturn, 1) := by decide +kernel
theorem dL_law_565 : decode cL_law 565 = .ok (.aload_n 1, 1) := by decide +kernel
theorem dL_law_566 : decode cL_law 566 = .ok (.invokevirtual 85, 3) := by decide +kernel
theorem dL_law_569 : decode cL_law 569 = .ok (.aload_n 2, 1) := by decide +kernel
theorem dL_law_570 : decode cL_law 570 = .ok (.invokevirtual 88, 3) := by decide +kernel
theorem dL_law_573 : decode cL_law 573 = .ok (.if_icmp .eq 18, 3) := by decide +kernel
theorem dL_law_576 : decode cL_law 576 = .ok (.iconst 0, 1) := by decide +kernel
theorem dL_law_577 : decode cL_law 577 = .ok (.ireturn, 1) := by decide +kernel
theorem dL_law_578 : decode cL_law 578 = .ok (.aload_n 1, 1) := by decide +kernel
theorem dL_law_579 : decode cL_law 579 = .ok (.invokevirtual 89, 3) := by decide +kernel
theorem dL_law_582 : decode cL_law 582 = .ok (.aload_n 2, 1) := by decide +kernel
theorem dL_law_583 : decode cL_law 583 = .ok (.invokevirtual 92, 3) := by decide +kernel
theorem dL_law_586 : decode cL_law 586 = .ok (.if_icmp .eq 5, 3) := by decide +kernel
theorem dL_law_589 : decode cL_law 589 = .ok (.iconst 0, 1) := by decide +kernel
theorem dL_law_590 : decode cL_law 590 = .ok (.ireturn, 1) := by decide +kernel
theorem dL_law_591 : decode cL_law 591 = .ok (.iinc 3 4, 3) := by decide +kernel
theorem dL_law_594 : decode cL_law 594 = .ok (.goto (-576), 3) := by decide +kernel
theorem dL_law_597 : decode cL_law 597 = .ok (.iconst 1, 1) := by decide +kernel
theorem dL_law_598 : decode cL_law 598 = .ok (.ireturn, 1) := by decide +kernel
end
section
def lw_ok : List Cond := lw_tbl.filter goodWord
theorem lw_in {w : Cond} (i : Nat) (h : lw_tbl[i]? = some w) (hg : goodWord w = true) : w ∈ lw_ok := List.mem_filter.mpr ⟨List.mem_of_getElem? h, hg⟩
theorem gIn {y : MethodName} {cb : ByteArray} {n : Nat} {ret : Option FieldType} (h : Cond.code y cb n ret ∈ lw_ok) : GoodIn lw_ok (Cond.code y cb n ret :: lw_ok) := fun w hw => by
  have hm : w ∈ lw_ok := by
    rcases List.mem_cons.mp hw with h1 | h1
    · rw [h1]; exact h
    · exact h1
  exact ⟨hm, good_of_word (List.mem_filter.mp hm).2⟩
/-- what a call of an instance method by a link stands on -/
def xLinkV (own : String) (idx : Nat) (y : MethodName) (cb : ByteArray) (n : Nat) (ret : Option FieldType) (k : Nat) : Prop := Cond.methodLink own idx y ∈ lw_ok ∧ Cond.instanceMethod y ∈ lw_ok ∧ Cond.selects y.cls y y ∈ lw_ok ∧ Cond.initialized y.cls ∈ lw_ok ∧ Cond.code y cb n ret ∈ lw_ok ∧ (y.cls ≠ "java/lang/invoke/MethodHandle" ∧ y.cls ≠ "java/lang/invoke/VarHandle" ∧ (parseMethodDescriptor y.desc).map (fun d => d.parameters.length) = some k)
/-- and of a static one -/
def xLinkS (own : String) (idx : Nat) (y : MethodName) (cb : ByteArray) (n : Nat) (ret : Option FieldType) (k : Nat) : Prop := Cond.methodLink own idx y ∈ lw_ok ∧ Cond.static y ∈ lw_ok ∧ Cond.initialized y.cls ∈ lw_ok ∧ Cond.code y cb n ret ∈ lw_ok ∧ (y.cls ≠ "java/lang/invoke/MethodHandle" ∧ y.cls ≠ "java/lang/invoke/VarHandle" ∧ (parseMethodDescriptor y.desc).map (fun d => d.parameters.length) = some k)
theorem okX0 : ∀ w ∈ wsX00, w ∈ lw_ok := fun w h => List.mem_filter.mpr ⟨inX0 w h, List.all_eq_true.mp (show (wsX00).all goodWord = true by decide +kernel) w h⟩
theorem okX1 : ∀ w ∈ wsX10, w ∈ lw_ok := fun w h => List.mem_filter.mpr ⟨inX1 w h, List.all_eq_true.mp (show (wsX10).all goodWord = true by decide +kernel) w h⟩
theorem okX2 : ∀ w ∈ wsX20, w ∈ lw_ok := fun w h => List.mem_filter.mpr ⟨inX2 w h, List.all_eq_true.mp (show (wsX20).all goodWord = true by decide +kernel) w h⟩
theorem okX3 : ∀ w ∈ wsX30, w ∈ lw_ok := fun w h => List.mem_filter.mpr ⟨inX3 w h, List.all_eq_true.mp (show (wsX30).all goodWord = true by decide +kernel) w h⟩
theorem okX4 : ∀ w ∈ wsX40, w ∈ lw_ok := fun w h => List.mem_filter.mpr ⟨inX4 w h, List.all_eq_true.mp (show (wsX40).all goodWord = true by decide +kernel) w h⟩
theorem okX5 : ∀ w ∈ wsX50, w ∈ lw_ok := fun w h => List.mem_filter.mpr ⟨inX5 w h, List.all_eq_true.mp (show (wsX50).all goodWord = true by decide +kernel) w h⟩
theorem ws_X4_goForward : Cond.selects RX4 yX4_goForward yX4_goForward ∈ lw_ok := lw_in 0 (by decide +kernel) (by decide +kernel)
theorem ws_X0_putAll : Cond.selects RX0 yX0_putAll yX0_putAll ∈ lw_ok := lw_in 1 (by decide +kernel) (by decide +kernel)
theorem ws_X3_thirdsAt : Cond.selects RX3 yX3_thirdsAt yX3_thirdsAt ∈ lw_ok := lw_in 2 (by decide +kernel) (by decide +kernel)
theorem ws_X3_bitOf : Cond.selects RX3 yX3_bitOf yX3_bitOf ∈ lw_ok := lw_in 3 (by decide +kernel) (by decide +kernel)
theorem ws_X3_hangingWith : Cond.selects RX3 yX3_hangingWith yX3_hangingWith ∈ lw_ok := lw_in 4 (by decide +kernel) (by decide +kernel)
theorem ws_X3_widened : Cond.selects RX3 yX3_widened yX3_widened ∈ lw_ok := lw_in 5 (by decide +kernel) (by decide +kernel)
theorem ws_X4_sumOrNone : Cond.selects RX4 yX4_sumOrNone yX4_sumOrNone ∈ lw_ok := lw_in 6 (by decide +kernel) (by decide +kernel)
theorem ws_X2_begin : Cond.selects RX2 yX2_begin yX2_begin ∈ lw_ok := lw_in 7 (by decide +kernel) (by decide +kernel)
theorem ws_X2_weigh : Cond.selects RX2 yX2_weigh yX2_weigh ∈ lw_ok := lw_in 8 (by decide +kernel) (by decide +kernel)
theorem ws_X2_level : Cond.selects RX2 yX2_level yX2_level ∈ lw_ok := lw_in 9 (by decide +kernel) (by decide +kernel)
theorem ws_X2_push : Cond.selects RX2 yX2_push yX2_push ∈ lw_ok := lw_in 10 (by decide +kernel) (by decide +kernel)
theorem ws_X2_reaches : Cond.selects RX2 yX2_reaches yX2_reaches ∈ lw_ok := lw_in 11 (by decide +kernel) (by decide +kernel)
theorem ws_X2_seeFromThird : Cond.selects RX2 yX2_seeFromThird yX2_seeFromThird ∈ lw_ok := lw_in 12 (by decide +kernel) (by decide +kernel)
theorem ws_X2_seeFromPost : Cond.selects RX2 yX2_seeFromPost yX2_seeFromPost ∈ lw_ok := lw_in 13 (by decide +kernel) (by decide +kernel)
theorem ws_X2_nodeBefore : Cond.selects RX2 yX2_nodeBefore yX2_nodeBefore ∈ lw_ok := lw_in 14 (by decide +kernel) (by decide +kernel)
theorem ws_X2_sink : Cond.selects RX2 yX2_sink yX2_sink ∈ lw_ok := lw_in 15 (by decide +kernel) (by decide +kernel)
theorem ws_X1_lookAtPosts : Cond.selects RX1 yX1_lookAtPosts yX1_lookAtPosts ∈ lw_ok := lw_in 16 (by decide +kernel) (by decide +kernel)
theorem ws_X1_lookAtThirds : Cond.selects RX1 yX1_lookAtThirds yX1_lookAtThirds ∈ lw_ok := lw_in 17 (by decide +kernel) (by decide +kernel)
theorem ws_X1_thirdsAtToldPosts : Cond.selects RX1 yX1_thirdsAtToldPosts yX1_thirdsAtToldPosts ∈ lw_ok := lw_in 18 (by decide +kernel) (by decide +kernel)
theorem ws_X1_isBar : Cond.selects RX1 yX1_isBar yX1_isBar ∈ lw_ok := lw_in 19 (by decide +kernel) (by decide +kernel)
theorem ws_X1_roomFor : Cond.selects RX1 yX1_roomFor yX1_roomFor ∈ lw_ok := lw_in 20 (by decide +kernel) (by decide +kernel)
theorem ws_X1_mostOf : Cond.selects RX1 yX1_mostOf yX1_mostOf ∈ lw_ok := lw_in 21 (by decide +kernel) (by decide +kernel)
theorem ws_X1_leastOf : Cond.selects RX1 yX1_leastOf yX1_leastOf ∈ lw_ok := lw_in 22 (by decide +kernel) (by decide +kernel)
theorem ws_X4_givenOpposite : Cond.selects RX4 yX4_givenOpposite yX4_givenOpposite ∈ lw_ok := lw_in 23 (by decide +kernel) (by decide +kernel)
theorem ws_X5_begin : Cond.selects RX5 yX5_begin yX5_begin ∈ lw_ok := lw_in 24 (by decide +kernel) (by decide +kernel)
theorem ws_X5_arePair : Cond.selects RX5 yX5_arePair yX5_arePair ∈ lw_ok := lw_in 25 (by decide +kernel) (by decide +kernel)
theorem ws_X5_isPost : Cond.selects RX5 yX5_isPost yX5_isPost ∈ lw_ok := lw_in 26 (by decide +kernel) (by decide +kernel)
theorem ws_X5_arrowOf : Cond.selects RX5 yX5_arrowOf yX5_arrowOf ∈ lw_ok := lw_in 27 (by decide +kernel) (by decide +kernel)
theorem ws_X5_put : Cond.selects RX5 yX5_put yX5_put ∈ lw_ok := lw_in 28 (by decide +kernel) (by decide +kernel)
theorem ws_X5_write : Cond.selects RX5 yX5_write yX5_write ∈ lw_ok := lw_in 29 (by decide +kernel) (by decide +kernel)
theorem ws_X5_keepThirds : Cond.selects RX5 yX5_keepThirds yX5_keepThirds ∈ lw_ok := lw_in 30 (by decide +kernel) (by decide +kernel)
theorem ws_X5_sideOf : Cond.selects RX5 yX5_sideOf yX5_sideOf ∈ lw_ok := lw_in 31 (by decide +kernel) (by decide +kernel)
theorem ws_X5_oppositeCorner : Cond.selects RX5 yX5_oppositeCorner yX5_oppositeCorner ∈ lw_ok := lw_in 32 (by decide +kernel) (by decide +kernel)
theorem ws_X5_takeThirds : Cond.selects RX5 yX5_takeThirds yX5_takeThirds ∈ lw_ok := lw_in 33 (by decide +kernel) (by decide +kernel)
theorem ws_X5_cornersAt : Cond.selects RX5 yX5_cornersAt yX5_cornersAt ∈ lw_ok := lw_in 34 (by decide +kernel) (by decide +kernel)
theorem ws_X5_sidesAt : Cond.selects RX5 yX5_sidesAt yX5_sidesAt ∈ lw_ok := lw_in 35 (by decide +kernel) (by decide +kernel)
theorem ws_X5_pieces : Cond.selects RX5 yX5_pieces yX5_pieces ∈ lw_ok := lw_in 36 (by decide +kernel) (by decide +kernel)
theorem ws_X5_hasPost : Cond.selects RX5 yX5_hasPost yX5_hasPost ∈ lw_ok := lw_in 37 (by decide +kernel) (by decide +kernel)
theorem ws_X5_hang : Cond.selects RX5 yX5_hang yX5_hang ∈ lw_ok := lw_in 38 (by decide +kernel) (by decide +kernel)
theorem ws_X5_sumOfRow : Cond.selects RX5 yX5_sumOfRow yX5_sumOfRow ∈ lw_ok := lw_in 39 (by decide +kernel) (by decide +kernel)
theorem ws_X5_hasRow : Cond.selects RX5 yX5_hasRow yX5_hasRow ∈ lw_ok := lw_in 40 (by decide +kernel) (by decide +kernel)
theorem ws_X5_canWith : Cond.selects RX5 yX5_canWith yX5_canWith ∈ lw_ok := lw_in 41 (by decide +kernel) (by decide +kernel)
theorem ws_X5_fill : Cond.selects RX5 yX5_fill yX5_fill ∈ lw_ok := lw_in 42 (by decide +kernel) (by decide +kernel)
theorem ws_X5_clearWays : Cond.selects RX5 yX5_clearWays yX5_clearWays ∈ lw_ok := lw_in 43 (by decide +kernel) (by decide +kernel)
theorem ws_X5_come : Cond.selects RX5 yX5_come yX5_come ∈ lw_ok := lw_in 44 (by decide +kernel) (by decide +kernel)
theorem ws_X5_spread : Cond.selects RX5 yX5_spread yX5_spread ∈ lw_ok := lw_in 45 (by decide +kernel) (by decide +kernel)
theorem ws_X5_wanting : Cond.selects RX5 yX5_wanting yX5_wanting ∈ lw_ok := lw_in 46 (by decide +kernel) (by decide +kernel)
theorem ws_X5_wayRoom : Cond.selects RX5 yX5_wayRoom yX5_wayRoom ∈ lw_ok := lw_in 47 (by decide +kernel) (by decide +kernel)
theorem ws_X5_goWay : Cond.selects RX5 yX5_goWay yX5_goWay ∈ lw_ok := lw_in 48 (by decide +kernel) (by decide +kernel)
theorem ws_X5_lower : Cond.selects RX5 yX5_lower yX5_lower ∈ lw_ok := lw_in 49 (by decide +kernel) (by decide +kernel)
theorem ws_X5_sides : Cond.selects RX5 yX5_sides yX5_sides ∈ lw_ok := lw_in 50 (by decide +kernel) (by decide +kernel)
theorem ws_X5_thirdsBar : Cond.selects RX5 yX5_thirdsBar yX5_thirdsBar ∈ lw_ok := lw_in 51 (by decide +kernel) (by decide +kernel)
theorem ws_X5_postsBar : Cond.selects RX5 yX5_postsBar yX5_postsBar ∈ lw_ok := lw_in 52 (by decide +kernel) (by decide +kernel)
theorem ws_X5_oppositeOf : Cond.selects RX5 yX5_oppositeOf yX5_oppositeOf ∈ lw_ok := lw_in 53 (by decide +kernel) (by decide +kernel)
theorem wi_L : Cond.initialized RL ∈ lw_ok := lw_in 54 (by decide +kernel) (by decide +kernel)
theorem wi_X4 : Cond.initialized RX4 ∈ lw_ok := lw_in 55 (by decide +kernel) (by decide +kernel)
theorem wi_X3 : Cond.initialized RX3 ∈ lw_ok := lw_in 56 (by decide +kernel) (by decide +kernel)
theorem wi_J7 : Cond.initialized RJ7 ∈ lw_ok := lw_in 57 (by decide +kernel) (by decide +kernel)
theorem wi_X0 : Cond.initialized RX0 ∈ lw_ok := lw_in 58 (by decide +kernel) (by decide +kernel)
theorem wi_X2 : Cond.initialized RX2 ∈ lw_ok := lw_in 59 (by decide +kernel) (by decide +kernel)
theorem wi_X1 : Cond.initialized RX1 ∈ lw_ok := lw_in 60 (by decide +kernel) (by decide +kernel)
theorem wi_X5 : Cond.initialized RX5 ∈ lw_ok := lw_in 61 (by decide +kernel) (by decide +kernel)
theorem wi_J10 : Cond.initialized RJ10 ∈ lw_ok := lw_in 62 (by decide +kernel) (by decide +kernel)
theorem wi_J9 : Cond.initialized RJ9 ∈ lw_ok := lw_in 63 (by decide +kernel) (by decide +kernel)
theorem wi_J6 : Cond.initialized RJ6 ∈ lw_ok := lw_in 64 (by decide +kernel) (by decide +kernel)
theorem wq_L_7 : Cond.classLink RL 7 RX4 ∈ lw_ok := lw_in 65 (by decide +kernel) (by decide +kernel)
theorem wx_X4 : Cond.instantiable RX4 6 ∈ lw_ok := lw_in 66 (by decide +kernel) (by decide +kernel)
theorem wl_L_9 : Cond.methodLink RL 9 yX4_init ∈ lw_ok := lw_in 67 (by decide +kernel) (by decide +kernel)
theorem wm_X4_init : Cond.instanceMethod yX4_init ∈ lw_ok := lw_in 68 (by decide +kernel) (by decide +kernel)
theorem wc_X4_init : Cond.code yX4_init cX4_init 1 none ∈ lw_ok := lw_in 69 (by decide +kernel) (by decide +kernel)
theorem wl_X4_3 : Cond.methodLink RX4 3 objectInit ∈ lw_ok := lw_in 70 (by decide +kernel) (by decide +kernel)
theorem wm_objinit : Cond.instanceMethod objectInit ∈ lw_ok := lw_in 71 (by decide +kernel) (by decide +kernel)
theorem wc_objinit : Cond.code objectInit ⟨#[0xb1]⟩ 1 none ∈ lw_ok := lw_in 72 (by decide +kernel) (by decide +kernel)
theorem wq_X4_9 : Cond.classLink RX4 9 RX3 ∈ lw_ok := lw_in 73 (by decide +kernel) (by decide +kernel)
theorem wx_X3 : Cond.instantiable RX3 5 ∈ lw_ok := lw_in 74 (by decide +kernel) (by decide +kernel)
theorem wl_X4_11 : Cond.methodLink RX4 11 yX3_init ∈ lw_ok := lw_in 75 (by decide +kernel) (by decide +kernel)
theorem wm_X3_init : Cond.instanceMethod yX3_init ∈ lw_ok := lw_in 76 (by decide +kernel) (by decide +kernel)
theorem wc_X3_init : Cond.code yX3_init cX3_init 1 none ∈ lw_ok := lw_in 77 (by decide +kernel) (by decide +kernel)
theorem wl_X3_5 : Cond.methodLink RX3 5 objectInit ∈ lw_ok := lw_in 78 (by decide +kernel) (by decide +kernel)
theorem wl_X3_28 : Cond.methodLink RX3 28 yJ7_fill_53178 ∈ lw_ok := lw_in 79 (by decide +kernel) (by decide +kernel)
theorem wt_J7_fill_53178 : Cond.static yJ7_fill_53178 ∈ lw_ok := lw_in 80 (by decide +kernel) (by decide +kernel)
theorem wc_J7_fill_53178 : Cond.code yJ7_fill_53178 cJ7_fill_53178 4 none ∈ lw_ok := lw_in 81 (by decide +kernel) (by decide +kernel)
theorem wf_X3_11 : Cond.fieldLink RX3 11 "AngleNet$Net" "corners" "[I" ∈ lw_ok := lw_in 82 (by decide +kernel) (by decide +kernel)
theorem wf_X3_15 : Cond.fieldLink RX3 15 "AngleNet$Net" "sums" "[I" ∈ lw_ok := lw_in 83 (by decide +kernel) (by decide +kernel)
theorem wf_X3_18 : Cond.fieldLink RX3 18 "AngleNet$Net" "arrows" "[I" ∈ lw_ok := lw_in 84 (by decide +kernel) (by decide +kernel)
theorem wf_X3_21 : Cond.fieldLink RX3 21 "AngleNet$Net" "posts" "I" ∈ lw_ok := lw_in 85 (by decide +kernel) (by decide +kernel)
theorem wf_X3_25 : Cond.fieldLink RX3 25 "AngleNet$Net" "thirds" "I" ∈ lw_ok := lw_in 86 (by decide +kernel) (by decide +kernel)
theorem wa_int : Cond.arrayClass .int ∈ lw_ok := lw_in 98 (by decide +kernel) (by decide +kernel)
theorem wq_X4_16 : Cond.classLink RX4 16 RX0 ∈ lw_ok := lw_in 99 (by decide +kernel) (by decide +kernel)
theorem wx_X0 : Cond.instantiable RX0 5 ∈ lw_ok := lw_in 100 (by decide +kernel) (by decide +kernel)
theorem wl_X4_18 : Cond.methodLink RX4 18 yX0_init ∈ lw_ok := lw_in 101 (by decide +kernel) (by decide +kernel)
theorem wm_X0_init : Cond.instanceMethod yX0_init ∈ lw_ok := lw_in 102 (by decide +kernel) (by decide +kernel)
theorem wc_X0_init : Cond.code yX0_init cX0_init 1 none ∈ lw_ok := lw_in 103 (by decide +kernel) (by decide +kernel)
theorem wl_X0_3 : Cond.methodLink RX0 3 objectInit ∈ lw_ok := lw_in 104 (by decide +kernel) (by decide +kernel)
theorem wf_X0_11 : Cond.fieldLink RX0 11 "AngleNet$Acts" "cells" "[I" ∈ lw_ok := lw_in 105 (by decide +kernel) (by decide +kernel)
theorem wf_X0_15 : Cond.fieldLink RX0 15 "AngleNet$Acts" "before" "[I" ∈ lw_ok := lw_in 106 (by decide +kernel) (by decide +kernel)
theorem wf_X0_18 : Cond.fieldLink RX0 18 "AngleNet$Acts" "after" "[I" ∈ lw_ok := lw_in 107 (by decide +kernel) (by decide +kernel)
theorem wf_X0_21 : Cond.fieldLink RX0 21 "AngleNet$Acts" "behind" "I" ∈ lw_ok := lw_in 108 (by decide +kernel) (by decide +kernel)
theorem wf_X0_25 : Cond.fieldLink RX0 25 "AngleNet$Acts" "ahead" "I" ∈ lw_ok := lw_in 109 (by decide +kernel) (by decide +kernel)
theorem wq_X4_23 : Cond.classLink RX4 23 RX2 ∈ lw_ok := lw_in 121 (by decide +kernel) (by decide +kernel)
theorem wx_X2 : Cond.instantiable RX2 11 ∈ lw_ok := lw_in 122 (by decide +kernel) (by decide +kernel)
theorem wl_X4_25 : Cond.methodLink RX4 25 yX2_init ∈ lw_ok := lw_in 123 (by decide +kernel) (by decide +kernel)
theorem wm_X2_init : Cond.instanceMethod yX2_init ∈ lw_ok := lw_in 124 (by decide +kernel) (by decide +kernel)
theorem wc_X2_init : Cond.code yX2_init cX2_init 2 none ∈ lw_ok := lw_in 125 (by decide +kernel) (by decide +kernel)
theorem wl_X2_5 : Cond.methodLink RX2 5 objectInit ∈ lw_ok := lw_in 126 (by decide +kernel) (by decide +kernel)
theorem wf_X2_11 : Cond.fieldLink RX2 11 "AngleNet$Giver" "net" "LAngleNet$Net;" ∈ lw_ok := lw_in 127 (by decide +kernel) (by decide +kernel)
theorem wf_X2_15 : Cond.fieldLink RX2 15 "AngleNet$Giver" "row" "[I" ∈ lw_ok := lw_in 128 (by decide +kernel) (by decide +kernel)
theorem wf_X2_19 : Cond.fieldLink RX2 19 "AngleNet$Giver" "places" "[I" ∈ lw_ok := lw_in 129 (by decide +kernel) (by decide +kernel)
theorem wf_X2_22 : Cond.fieldLink RX2 22 "AngleNet$Giver" "over" "[I" ∈ lw_ok := lw_in 130 (by decide +kernel) (by decide +kernel)
theorem wf_X2_25 : Cond.fieldLink RX2 25 "AngleNet$Giver" "via" "[I" ∈ lw_ok := lw_in 131 (by decide +kernel) (by decide +kernel)
theorem wf_X2_28 : Cond.fieldLink RX2 28 "AngleNet$Giver" "queue" "[I" ∈ lw_ok := lw_in 132 (by decide +kernel) (by decide +kernel)
theorem wf_X2_35 : Cond.fieldLink RX2 35 "AngleNet$Giver" "corners" "I" ∈ lw_ok := lw_in 133 (by decide +kernel) (by decide +kernel)
theorem wf_X2_70 : Cond.fieldLink RX2 70 "AngleNet$Giver" "lowest" "I" ∈ lw_ok := lw_in 134 (by decide +kernel) (by decide +kernel)
theorem wf_X2_73 : Cond.fieldLink RX2 73 "AngleNet$Giver" "firstOpen" "I" ∈ lw_ok := lw_in 135 (by decide +kernel) (by decide +kernel)
theorem wf_X2_31 : Cond.fieldLink RX2 31 "AngleNet$Giver" "rowIsFresh" "Z" ∈ lw_ok := lw_in 136 (by decide +kernel) (by decide +kernel)
theorem wf_X2_49 : Cond.fieldLink RX2 49 "AngleNet$Giver" "rowIsThere" "Z" ∈ lw_ok := lw_in 137 (by decide +kernel) (by decide +kernel)
theorem wq_X4_32 : Cond.classLink RX4 32 RX1 ∈ lw_ok := lw_in 161 (by decide +kernel) (by decide +kernel)
theorem wx_X1 : Cond.instantiable RX1 7 ∈ lw_ok := lw_in 162 (by decide +kernel) (by decide +kernel)
theorem wl_X4_34 : Cond.methodLink RX4 34 yX1_init ∈ lw_ok := lw_in 163 (by decide +kernel) (by decide +kernel)
theorem wm_X1_init : Cond.instanceMethod yX1_init ∈ lw_ok := lw_in 164 (by decide +kernel) (by decide +kernel)
theorem wc_X1_init : Cond.code yX1_init cX1_init 2 none ∈ lw_ok := lw_in 165 (by decide +kernel) (by decide +kernel)
theorem wl_X1_5 : Cond.methodLink RX1 5 objectInit ∈ lw_ok := lw_in 166 (by decide +kernel) (by decide +kernel)
theorem wf_X1_11 : Cond.fieldLink RX1 11 "AngleNet$Bars" "net" "LAngleNet$Net;" ∈ lw_ok := lw_in 167 (by decide +kernel) (by decide +kernel)
theorem wf_X1_15 : Cond.fieldLink RX1 15 "AngleNet$Bars" "postsOf" "[I" ∈ lw_ok := lw_in 168 (by decide +kernel) (by decide +kernel)
theorem wf_X1_19 : Cond.fieldLink RX1 19 "AngleNet$Bars" "postsOfSets" "[I" ∈ lw_ok := lw_in 169 (by decide +kernel) (by decide +kernel)
theorem wf_X1_22 : Cond.fieldLink RX1 22 "AngleNet$Bars" "totals" "[I" ∈ lw_ok := lw_in 170 (by decide +kernel) (by decide +kernel)
theorem wf_X1_43 : Cond.fieldLink RX1 43 "AngleNet$Bars" "toldPosts" "I" ∈ lw_ok := lw_in 171 (by decide +kernel) (by decide +kernel)
theorem wf_X1_25 : Cond.fieldLink RX1 25 "AngleNet$Bars" "straight" "I" ∈ lw_ok := lw_in 172 (by decide +kernel) (by decide +kernel)
theorem wf_X1_29 : Cond.fieldLink RX1 29 "AngleNet$Bars" "least" "I" ∈ lw_ok := lw_in 173 (by decide +kernel) (by decide +kernel)
theorem wf_X4_12 : Cond.fieldLink RX4 12 "AngleNet" "net" "LAngleNet$Net;" ∈ lw_ok := lw_in 189 (by decide +kernel) (by decide +kernel)
theorem wf_X4_19 : Cond.fieldLink RX4 19 "AngleNet" "acts" "LAngleNet$Acts;" ∈ lw_ok := lw_in 190 (by decide +kernel) (by decide +kernel)
theorem wf_X4_28 : Cond.fieldLink RX4 28 "AngleNet" "giver" "LAngleNet$Giver;" ∈ lw_ok := lw_in 191 (by decide +kernel) (by decide +kernel)
theorem wf_X4_35 : Cond.fieldLink RX4 35 "AngleNet" "bars" "LAngleNet$Bars;" ∈ lw_ok := lw_in 192 (by decide +kernel) (by decide +kernel)
theorem wf_X4_39 : Cond.fieldLink RX4 39 "AngleNet" "straightIs" "I" ∈ lw_ok := lw_in 193 (by decide +kernel) (by decide +kernel)
theorem wf_X4_43 : Cond.fieldLink RX4 43 "AngleNet" "leastIs" "I" ∈ lw_ok := lw_in 194 (by decide +kernel) (by decide +kernel)
theorem wl_L_13 : Cond.methodLink RL 13 yX4_posts ∈ lw_ok := lw_in 208 (by decide +kernel) (by decide +kernel)
theorem wm_X4_posts : Cond.instanceMethod yX4_posts ∈ lw_ok := lw_in 209 (by decide +kernel) (by decide +kernel)
theorem ws_X4_posts : Cond.selects RX4 yX4_posts yX4_posts ∈ lw_ok := lw_in 210 (by decide +kernel) (by decide +kernel)
theorem wc_X4_posts : Cond.code yX4_posts cX4_posts 3 (some .int) ∈ lw_ok := lw_in 211 (by decide +kernel) (by decide +kernel)
theorem wl_X4_46 : Cond.methodLink RX4 46 yX3_postCount ∈ lw_ok := lw_in 212 (by decide +kernel) (by decide +kernel)
theorem wm_X3_postCount : Cond.instanceMethod yX3_postCount ∈ lw_ok := lw_in 213 (by decide +kernel) (by decide +kernel)
theorem ws_X3_postCount : Cond.selects RX3 yX3_postCount yX3_postCount ∈ lw_ok := lw_in 214 (by decide +kernel) (by decide +kernel)
theorem wc_X3_postCount : Cond.code yX3_postCount cX3_postCount 1 (some .int) ∈ lw_ok := lw_in 215 (by decide +kernel) (by decide +kernel)
theorem wl_X4_50 : Cond.methodLink RX4 50 yX3_beginAnew ∈ lw_ok := lw_in 216 (by decide +kernel) (by decide +kernel)
theorem wm_X3_beginAnew : Cond.instanceMethod yX3_beginAnew ∈ lw_ok := lw_in 217 (by decide +kernel) (by decide +kernel)
theorem ws_X3_beginAnew : Cond.selects RX3 yX3_beginAnew yX3_beginAnew ∈ lw_ok := lw_in 218 (by decide +kernel) (by decide +kernel)
theorem wc_X3_beginAnew : Cond.code yX3_beginAnew cX3_beginAnew 2 none ∈ lw_ok := lw_in 219 (by decide +kernel) (by decide +kernel)
theorem wl_X3_34 : Cond.methodLink RX3 34 yX3_drawArrows ∈ lw_ok := lw_in 220 (by decide +kernel) (by decide +kernel)
theorem wm_X3_drawArrows : Cond.instanceMethod yX3_drawArrows ∈ lw_ok := lw_in 221 (by decide +kernel) (by decide +kernel)
theorem ws_X3_drawArrows : Cond.selects RX3 yX3_drawArrows yX3_drawArrows ∈ lw_ok := lw_in 222 (by decide +kernel) (by decide +kernel)
theorem wc_X3_drawArrows : Cond.code yX3_drawArrows cX3_drawArrows 5 none ∈ lw_ok := lw_in 223 (by decide +kernel) (by decide +kernel)
theorem wl_X4_54 : Cond.methodLink RX4 54 yX0_forgetAll ∈ lw_ok := lw_in 224 (by decide +kernel) (by decide +kernel)
theorem wm_X0_forgetAll : Cond.instanceMethod yX0_forgetAll ∈ lw_ok := lw_in 225 (by decide +kernel) (by decide +kernel)
theorem ws_X0_forgetAll : Cond.selects RX0 yX0_forgetAll yX0_forgetAll ∈ lw_ok := lw_in 226 (by decide +kernel) (by decide +kernel)
theorem wc_X0_forgetAll : Cond.code yX0_forgetAll cX0_forgetAll 1 none ∈ lw_ok := lw_in 227 (by decide +kernel) (by decide +kernel)
theorem wl_X4_57 : Cond.methodLink RX4 57 yX2_forgetRow ∈ lw_ok := lw_in 228 (by decide +kernel) (by decide +kernel)
theorem wm_X2_forgetRow : Cond.instanceMethod yX2_forgetRow ∈ lw_ok := lw_in 229 (by decide +kernel) (by decide +kernel)
theorem ws_X2_forgetRow : Cond.selects RX2 yX2_forgetRow yX2_forgetRow ∈ lw_ok := lw_in 230 (by decide +kernel) (by decide +kernel)
theorem wc_X2_forgetRow : Cond.code yX2_forgetRow cX2_forgetRow 1 none ∈ lw_ok := lw_in 231 (by decide +kernel) (by decide +kernel)
theorem wl_L_18 : Cond.methodLink RL 18 yX4_third ∈ lw_ok := lw_in 232 (by decide +kernel) (by decide +kernel)
theorem wm_X4_third : Cond.instanceMethod yX4_third ∈ lw_ok := lw_in 233 (by decide +kernel) (by decide +kernel)
theorem ws_X4_third : Cond.selects RX4 yX4_third yX4_third ∈ lw_ok := lw_in 234 (by decide +kernel) (by decide +kernel)
theorem wc_X4_third : Cond.code yX4_third cX4_third 5 (some .int) ∈ lw_ok := lw_in 235 (by decide +kernel) (by decide +kernel)
theorem wl_X4_60 : Cond.methodLink RX4 60 yX3_areUnlike ∈ lw_ok := lw_in 236 (by decide +kernel) (by decide +kernel)
theorem wm_X3_areUnlike : Cond.instanceMethod yX3_areUnlike ∈ lw_ok := lw_in 237 (by decide +kernel) (by decide +kernel)
theorem ws_X3_areUnlike : Cond.selects RX3 yX3_areUnlike yX3_areUnlike ∈ lw_ok := lw_in 238 (by decide +kernel) (by decide +kernel)
theorem wc_X3_areUnlike : Cond.code yX3_areUnlike cX3_areUnlike 3 (some .boolean) ∈ lw_ok := lw_in 239 (by decide +kernel) (by decide +kernel)
theorem wl_X3_51 : Cond.methodLink RX3 51 yX3_hasPost ∈ lw_ok := lw_in 240 (by decide +kernel) (by decide +kernel)
theorem wm_X3_hasPost : Cond.instanceMethod yX3_hasPost ∈ lw_ok := lw_in 241 (by decide +kernel) (by decide +kernel)
theorem ws_X3_hasPost : Cond.selects RX3 yX3_hasPost yX3_hasPost ∈ lw_ok := lw_in 242 (by decide +kernel) (by decide +kernel)
theorem wc_X3_hasPost : Cond.code yX3_hasPost cX3_hasPost 2 (some .boolean) ∈ lw_ok := lw_in 243 (by decide +kernel) (by decide +kernel)
theorem wl_X4_64 : Cond.methodLink RX4 64 yX3_thirdCount ∈ lw_ok := lw_in 244 (by decide +kernel) (by decide +kernel)
theorem wm_X3_thirdCount : Cond.instanceMethod yX3_thirdCount ∈ lw_ok := lw_in 245 (by decide +kernel) (by decide +kernel)
theorem ws_X3_thirdCount : Cond.selects RX3 yX3_thirdCount yX3_thirdCount ∈ lw_ok := lw_in 246 (by decide +kernel) (by decide +kernel)
theorem wc_X3_thirdCount : Cond.code yX3_thirdCount cX3_thirdCount 1 (some .int) ∈ lw_ok := lw_in 247 (by decide +kernel) (by decide +kernel)
theorem wl_X4_67 : Cond.methodLink RX4 67 yX3_hasArrow ∈ lw_ok := lw_in 248 (by decide +kernel) (by decide +kernel)
theorem wm_X3_hasArrow : Cond.instanceMethod yX3_hasArrow ∈ lw_ok := lw_in 249 (by decide +kernel) (by decide +kernel)
theorem ws_X3_hasArrow : Cond.selects RX3 yX3_hasArrow yX3_hasArrow ∈ lw_ok := lw_in 250 (by decide +kernel) (by decide +kernel)
theorem wc_X3_hasArrow : Cond.code yX3_hasArrow cX3_hasArrow 3 (some .boolean) ∈ lw_ok := lw_in 251 (by decide +kernel) (by decide +kernel)
theorem wl_X3_55 : Cond.methodLink RX3 55 yX3_thirdWith ∈ lw_ok := lw_in 252 (by decide +kernel) (by decide +kernel)
theorem wm_X3_thirdWith : Cond.instanceMethod yX3_thirdWith ∈ lw_ok := lw_in 253 (by decide +kernel) (by decide +kernel)
theorem ws_X3_thirdWith : Cond.selects RX3 yX3_thirdWith yX3_thirdWith ∈ lw_ok := lw_in 254 (by decide +kernel) (by decide +kernel)
theorem wc_X3_thirdWith : Cond.code yX3_thirdWith cX3_thirdWith 3 (some .int) ∈ lw_ok := lw_in 255 (by decide +kernel) (by decide +kernel)
theorem wl_X4_70 : Cond.methodLink RX4 70 yX0_begin ∈ lw_ok := lw_in 256 (by decide +kernel) (by decide +kernel)
theorem wm_X0_begin : Cond.instanceMethod yX0_begin ∈ lw_ok := lw_in 257 (by decide +kernel) (by decide +kernel)
theorem ws_X0_begin : Cond.selects RX0 yX0_begin yX0_begin ∈ lw_ok := lw_in 258 (by decide +kernel) (by decide +kernel)
theorem wc_X0_begin : Cond.code yX0_begin cX0_begin 2 none ∈ lw_ok := lw_in 259 (by decide +kernel) (by decide +kernel)
theorem wl_X0_28 : Cond.methodLink RX0 28 yX0_dropOldest ∈ lw_ok := lw_in 260 (by decide +kernel) (by decide +kernel)
theorem wt_X0_dropOldest : Cond.static yX0_dropOldest ∈ lw_ok := lw_in 261 (by decide +kernel) (by decide +kernel)
theorem wc_X0_dropOldest : Cond.code yX0_dropOldest cX0_dropOldest 1 none ∈ lw_ok := lw_in 262 (by decide +kernel) (by decide +kernel)
theorem wl_X0_49 : Cond.methodLink RX0 49 arraycopyName ∈ lw_ok := lw_in 263 (by decide +kernel) (by decide +kernel)
theorem wt_J10_arraycopy : Cond.static arraycopyName ∈ lw_ok := lw_in 264 (by decide +kernel) (by decide +kernel)
theorem wn_arraycopy : Cond.native arraycopyName ∈ lw_ok := lw_in 265 (by decide +kernel) (by decide +kernel)
theorem wl_X0_32 : Cond.methodLink RX0 32 yX0_note ∈ lw_ok := lw_in 266 (by decide +kernel) (by decide +kernel)
theorem wm_X0_note : Cond.instanceMethod yX0_note ∈ lw_ok := lw_in 267 (by decide +kernel) (by decide +kernel)
theorem ws_X0_note : Cond.selects RX0 yX0_note yX0_note ∈ lw_ok := lw_in 268 (by decide +kernel) (by decide +kernel)
theorem wc_X0_note : Cond.code yX0_note cX0_note 6 none ∈ lw_ok := lw_in 269 (by decide +kernel) (by decide +kernel)
theorem wl_X4_73 : Cond.methodLink RX4 73 yX3_pack ∈ lw_ok := lw_in 270 (by decide +kernel) (by decide +kernel)
theorem wt_X3_pack : Cond.static yX3_pack ∈ lw_ok := lw_in 271 (by decide +kernel) (by decide +kernel)
theorem wc_X3_pack : Cond.code yX3_pack cX3_pack 3 (some .int) ∈ lw_ok := lw_in 272 (by decide +kernel) (by decide +kernel)
theorem wl_X4_77 : Cond.methodLink RX4 77 yX0_note ∈ lw_ok := lw_in 273 (by decide +kernel) (by decide +kernel)
theorem wl_X4_81 : Cond.methodLink RX4 81 yX4_goForward ∈ lw_ok := lw_in 274 (by decide +kernel) (by decide +kernel)
theorem wm_X4_goForward : Cond.instanceMethod yX4_goForward ∈ lw_ok := lw_in 276 (by decide +kernel) (by decide +kernel)
theorem wc_X4_goForward : Cond.code yX4_goForward cX4_goForward 1 none ∈ lw_ok := lw_in 277 (by decide +kernel) (by decide +kernel)
theorem wl_X4_173 : Cond.methodLink RX4 173 yX0_forward ∈ lw_ok := lw_in 278 (by decide +kernel) (by decide +kernel)
theorem wm_X0_forward : Cond.instanceMethod yX0_forward ∈ lw_ok := lw_in 279 (by decide +kernel) (by decide +kernel)
theorem ws_X0_forward : Cond.selects RX0 yX0_forward yX0_forward ∈ lw_ok := lw_in 280 (by decide +kernel) (by decide +kernel)
theorem wc_X0_forward : Cond.code yX0_forward cX0_forward 2 none ∈ lw_ok := lw_in 281 (by decide +kernel) (by decide +kernel)
theorem wl_X0_36 : Cond.methodLink RX0 36 yX0_putAll ∈ lw_ok := lw_in 282 (by decide +kernel) (by decide +kernel)
theorem wm_X0_putAll : Cond.instanceMethod yX0_putAll ∈ lw_ok := lw_in 284 (by decide +kernel) (by decide +kernel)
theorem wc_X0_putAll : Cond.code yX0_putAll cX0_putAll 5 none ∈ lw_ok := lw_in 285 (by decide +kernel) (by decide +kernel)
theorem wl_X0_40 : Cond.methodLink RX0 40 yX3_put ∈ lw_ok := lw_in 286 (by decide +kernel) (by decide +kernel)
theorem wm_X3_put : Cond.instanceMethod yX3_put ∈ lw_ok := lw_in 287 (by decide +kernel) (by decide +kernel)
theorem ws_X3_put : Cond.selects RX3 yX3_put yX3_put ∈ lw_ok := lw_in 288 (by decide +kernel) (by decide +kernel)
theorem wc_X3_put : Cond.code yX3_put cX3_put 3 none ∈ lw_ok := lw_in 289 (by decide +kernel) (by decide +kernel)
theorem wl_X3_41 : Cond.methodLink RX3 41 Lib.Math.max.name ∈ lw_ok := lw_in 290 (by decide +kernel) (by decide +kernel)
theorem wt_J9_max_7cf53 : Cond.static Lib.Math.max.name ∈ lw_ok := lw_in 291 (by decide +kernel) (by decide +kernel)
theorem wc_J9_max_7cf53 : Cond.code Lib.Math.max.name Lib.Math.max.code 2 (some .int) ∈ lw_ok := lw_in 292 (by decide +kernel) (by decide +kernel)
theorem wl_X0_46 : Cond.methodLink RX0 46 yX3_drawArrows ∈ lw_ok := lw_in 293 (by decide +kernel) (by decide +kernel)
theorem wl_L_23 : Cond.methodLink RL 23 yX4_at ∈ lw_ok := lw_in 294 (by decide +kernel) (by decide +kernel)
theorem wm_X4_at : Cond.instanceMethod yX4_at ∈ lw_ok := lw_in 295 (by decide +kernel) (by decide +kernel)
theorem ws_X4_at : Cond.selects RX4 yX4_at yX4_at ∈ lw_ok := lw_in 296 (by decide +kernel) (by decide +kernel)
theorem wc_X4_at : Cond.code yX4_at cX4_at 2 (some .int) ∈ lw_ok := lw_in 297 (by decide +kernel) (by decide +kernel)
theorem wl_X4_84 : Cond.methodLink RX4 84 yX3_hasCorner ∈ lw_ok := lw_in 298 (by decide +kernel) (by decide +kernel)
theorem wm_X3_hasCorner : Cond.instanceMethod yX3_hasCorner ∈ lw_ok := lw_in 299 (by decide +kernel) (by decide +kernel)
theorem ws_X3_hasCorner : Cond.selects RX3 yX3_hasCorner yX3_hasCorner ∈ lw_ok := lw_in 300 (by decide +kernel) (by decide +kernel)
theorem wc_X3_hasCorner : Cond.code yX3_hasCorner cX3_hasCorner 2 (some .boolean) ∈ lw_ok := lw_in 301 (by decide +kernel) (by decide +kernel)
theorem wl_X3_47 : Cond.methodLink RX3 47 yX3_cornerCount ∈ lw_ok := lw_in 302 (by decide +kernel) (by decide +kernel)
theorem wm_X3_cornerCount : Cond.instanceMethod yX3_cornerCount ∈ lw_ok := lw_in 303 (by decide +kernel) (by decide +kernel)
theorem ws_X3_cornerCount : Cond.selects RX3 yX3_cornerCount yX3_cornerCount ∈ lw_ok := lw_in 304 (by decide +kernel) (by decide +kernel)
theorem wc_X3_cornerCount : Cond.code yX3_cornerCount cX3_cornerCount 1 (some .int) ∈ lw_ok := lw_in 305 (by decide +kernel) (by decide +kernel)
theorem wl_X4_88 : Cond.methodLink RX4 88 yX3_postOf ∈ lw_ok := lw_in 306 (by decide +kernel) (by decide +kernel)
theorem wm_X3_postOf : Cond.instanceMethod yX3_postOf ∈ lw_ok := lw_in 307 (by decide +kernel) (by decide +kernel)
theorem ws_X3_postOf : Cond.selects RX3 yX3_postOf yX3_postOf ∈ lw_ok := lw_in 308 (by decide +kernel) (by decide +kernel)
theorem wc_X3_postOf : Cond.code yX3_postOf cX3_postOf 2 (some .int) ∈ lw_ok := lw_in 309 (by decide +kernel) (by decide +kernel)
theorem wl_L_27 : Cond.methodLink RL 27 yX4_side ∈ lw_ok := lw_in 310 (by decide +kernel) (by decide +kernel)
theorem wm_X4_side : Cond.instanceMethod yX4_side ∈ lw_ok := lw_in 311 (by decide +kernel) (by decide +kernel)
theorem ws_X4_side : Cond.selects RX4 yX4_side yX4_side ∈ lw_ok := lw_in 312 (by decide +kernel) (by decide +kernel)
theorem wc_X4_side : Cond.code yX4_side cX4_side 3 (some .int) ∈ lw_ok := lw_in 313 (by decide +kernel) (by decide +kernel)
theorem wl_X4_92 : Cond.methodLink RX4 92 yX3_thirdsAtSide ∈ lw_ok := lw_in 314 (by decide +kernel) (by decide +kernel)
theorem wm_X3_thirdsAtSide : Cond.instanceMethod yX3_thirdsAtSide ∈ lw_ok := lw_in 315 (by decide +kernel) (by decide +kernel)
theorem ws_X3_thirdsAtSide : Cond.selects RX3 yX3_thirdsAtSide yX3_thirdsAtSide ∈ lw_ok := lw_in 316 (by decide +kernel) (by decide +kernel)
theorem wc_X3_thirdsAtSide : Cond.code yX3_thirdsAtSide cX3_thirdsAtSide 3 (some .int) ∈ lw_ok := lw_in 317 (by decide +kernel) (by decide +kernel)
theorem wl_X3_58 : Cond.methodLink RX3 58 yX3_hasArrow ∈ lw_ok := lw_in 318 (by decide +kernel) (by decide +kernel)
theorem wl_L_32 : Cond.methodLink RL 32 yX4_arrow ∈ lw_ok := lw_in 319 (by decide +kernel) (by decide +kernel)
theorem wm_X4_arrow : Cond.instanceMethod yX4_arrow ∈ lw_ok := lw_in 320 (by decide +kernel) (by decide +kernel)
theorem ws_X4_arrow : Cond.selects RX4 yX4_arrow yX4_arrow ∈ lw_ok := lw_in 321 (by decide +kernel) (by decide +kernel)
theorem wc_X4_arrow : Cond.code yX4_arrow cX4_arrow 3 (some .int) ∈ lw_ok := lw_in 322 (by decide +kernel) (by decide +kernel)
theorem wl_X4_96 : Cond.methodLink RX4 96 yX3_thirdWith ∈ lw_ok := lw_in 323 (by decide +kernel) (by decide +kernel)
theorem wl_L_36 : Cond.methodLink RL 36 yX4_turn ∈ lw_ok := lw_in 324 (by decide +kernel) (by decide +kernel)
theorem wm_X4_turn : Cond.instanceMethod yX4_turn ∈ lw_ok := lw_in 325 (by decide +kernel) (by decide +kernel)
theorem ws_X4_turn : Cond.selects RX4 yX4_turn yX4_turn ∈ lw_ok := lw_in 326 (by decide +kernel) (by decide +kernel)
theorem wc_X4_turn : Cond.code yX4_turn cX4_turn 7 (some .int) ∈ lw_ok := lw_in 327 (by decide +kernel) (by decide +kernel)
theorem wl_X4_99 : Cond.methodLink RX4 99 yX3_isSide ∈ lw_ok := lw_in 328 (by decide +kernel) (by decide +kernel)
theorem wm_X3_isSide : Cond.instanceMethod yX3_isSide ∈ lw_ok := lw_in 329 (by decide +kernel) (by decide +kernel)
theorem ws_X3_isSide : Cond.selects RX3 yX3_isSide yX3_isSide ∈ lw_ok := lw_in 330 (by decide +kernel) (by decide +kernel)
theorem wc_X3_isSide : Cond.code yX3_isSide cX3_isSide 3 (some .boolean) ∈ lw_ok := lw_in 331 (by decide +kernel) (by decide +kernel)
theorem wl_X3_62 : Cond.methodLink RX3 62 yX3_areUnlike ∈ lw_ok := lw_in 332 (by decide +kernel) (by decide +kernel)
theorem wl_X3_65 : Cond.methodLink RX3 65 yX3_thirdsAtSide ∈ lw_ok := lw_in 333 (by decide +kernel) (by decide +kernel)
theorem wl_X4_102 : Cond.methodLink RX4 102 yX3_cornerOpposite ∈ lw_ok := lw_in 334 (by decide +kernel) (by decide +kernel)
theorem wm_X3_cornerOpposite : Cond.instanceMethod yX3_cornerOpposite ∈ lw_ok := lw_in 335 (by decide +kernel) (by decide +kernel)
theorem ws_X3_cornerOpposite : Cond.selects RX3 yX3_cornerOpposite yX3_cornerOpposite ∈ lw_ok := lw_in 336 (by decide +kernel) (by decide +kernel)
theorem wc_X3_cornerOpposite : Cond.code yX3_cornerOpposite cX3_cornerOpposite 6 (some .int) ∈ lw_ok := lw_in 337 (by decide +kernel) (by decide +kernel)
theorem wl_X4_105 : Cond.methodLink RX4 105 yX3_packed ∈ lw_ok := lw_in 338 (by decide +kernel) (by decide +kernel)
theorem wm_X3_packed : Cond.instanceMethod yX3_packed ∈ lw_ok := lw_in 339 (by decide +kernel) (by decide +kernel)
theorem ws_X3_packed : Cond.selects RX3 yX3_packed yX3_packed ∈ lw_ok := lw_in 340 (by decide +kernel) (by decide +kernel)
theorem wc_X3_packed : Cond.code yX3_packed cX3_packed 2 (some .int) ∈ lw_ok := lw_in 341 (by decide +kernel) (by decide +kernel)
theorem wl_X3_37 : Cond.methodLink RX3 37 yX3_pack ∈ lw_ok := lw_in 342 (by decide +kernel) (by decide +kernel)
theorem wl_L_40 : Cond.methodLink RL 40 yX4_about ∈ lw_ok := lw_in 343 (by decide +kernel) (by decide +kernel)
theorem wm_X4_about : Cond.instanceMethod yX4_about ∈ lw_ok := lw_in 344 (by decide +kernel) (by decide +kernel)
theorem ws_X4_about : Cond.selects RX4 yX4_about yX4_about ∈ lw_ok := lw_in 345 (by decide +kernel) (by decide +kernel)
theorem wc_X4_about : Cond.code yX4_about cX4_about 3 (some .int) ∈ lw_ok := lw_in 346 (by decide +kernel) (by decide +kernel)
theorem wl_X4_108 : Cond.methodLink RX4 108 yX3_hasPost ∈ lw_ok := lw_in 347 (by decide +kernel) (by decide +kernel)
theorem wl_X4_111 : Cond.methodLink RX4 111 yX3_cornersAt ∈ lw_ok := lw_in 348 (by decide +kernel) (by decide +kernel)
theorem wm_X3_cornersAt : Cond.instanceMethod yX3_cornersAt ∈ lw_ok := lw_in 349 (by decide +kernel) (by decide +kernel)
theorem ws_X3_cornersAt : Cond.selects RX3 yX3_cornersAt yX3_cornersAt ∈ lw_ok := lw_in 350 (by decide +kernel) (by decide +kernel)
theorem wc_X3_cornersAt : Cond.code yX3_cornersAt cX3_cornersAt 4 (some .int) ∈ lw_ok := lw_in 351 (by decide +kernel) (by decide +kernel)
theorem wl_X4_114 : Cond.methodLink RX4 114 yX3_sidesAt ∈ lw_ok := lw_in 352 (by decide +kernel) (by decide +kernel)
theorem wm_X3_sidesAt : Cond.instanceMethod yX3_sidesAt ∈ lw_ok := lw_in 353 (by decide +kernel) (by decide +kernel)
theorem ws_X3_sidesAt : Cond.selects RX3 yX3_sidesAt yX3_sidesAt ∈ lw_ok := lw_in 354 (by decide +kernel) (by decide +kernel)
theorem wc_X3_sidesAt : Cond.code yX3_sidesAt cX3_sidesAt 5 (some .int) ∈ lw_ok := lw_in 355 (by decide +kernel) (by decide +kernel)
theorem wl_X4_117 : Cond.methodLink RX4 117 yX3_isFreeOfRim ∈ lw_ok := lw_in 356 (by decide +kernel) (by decide +kernel)
theorem wm_X3_isFreeOfRim : Cond.instanceMethod yX3_isFreeOfRim ∈ lw_ok := lw_in 357 (by decide +kernel) (by decide +kernel)
theorem ws_X3_isFreeOfRim : Cond.selects RX3 yX3_isFreeOfRim yX3_isFreeOfRim ∈ lw_ok := lw_in 358 (by decide +kernel) (by decide +kernel)
theorem wc_X3_isFreeOfRim : Cond.code yX3_isFreeOfRim cX3_isFreeOfRim 2 (some .boolean) ∈ lw_ok := lw_in 359 (by decide +kernel) (by decide +kernel)
theorem wl_X3_71 : Cond.methodLink RX3 71 yX3_cornersAt ∈ lw_ok := lw_in 360 (by decide +kernel) (by decide +kernel)
theorem wl_X3_68 : Cond.methodLink RX3 68 yX3_sidesAt ∈ lw_ok := lw_in 361 (by decide +kernel) (by decide +kernel)
theorem wl_X4_120 : Cond.methodLink RX4 120 yX3_isRound ∈ lw_ok := lw_in 362 (by decide +kernel) (by decide +kernel)
theorem wm_X3_isRound : Cond.instanceMethod yX3_isRound ∈ lw_ok := lw_in 363 (by decide +kernel) (by decide +kernel)
theorem ws_X3_isRound : Cond.selects RX3 yX3_isRound yX3_isRound ∈ lw_ok := lw_in 364 (by decide +kernel) (by decide +kernel)
theorem wc_X3_isRound : Cond.code yX3_isRound cX3_isRound 3 (some .boolean) ∈ lw_ok := lw_in 365 (by decide +kernel) (by decide +kernel)
theorem wl_X3_75 : Cond.methodLink RX3 75 yX3_thirdsAt ∈ lw_ok := lw_in 366 (by decide +kernel) (by decide +kernel)
theorem wm_X3_thirdsAt : Cond.instanceMethod yX3_thirdsAt ∈ lw_ok := lw_in 368 (by decide +kernel) (by decide +kernel)
theorem wc_X3_thirdsAt : Cond.code yX3_thirdsAt cX3_thirdsAt 4 (some .int) ∈ lw_ok := lw_in 369 (by decide +kernel) (by decide +kernel)
theorem wl_X3_87 : Cond.methodLink RX3 87 yX3_bitOf ∈ lw_ok := lw_in 370 (by decide +kernel) (by decide +kernel)
theorem wm_X3_bitOf : Cond.instanceMethod yX3_bitOf ∈ lw_ok := lw_in 372 (by decide +kernel) (by decide +kernel)
theorem wc_X3_bitOf : Cond.code yX3_bitOf cX3_bitOf 3 (some .int) ∈ lw_ok := lw_in 373 (by decide +kernel) (by decide +kernel)
theorem wl_X3_78 : Cond.methodLink RX3 78 yX3_hangingWith ∈ lw_ok := lw_in 374 (by decide +kernel) (by decide +kernel)
theorem wm_X3_hangingWith : Cond.instanceMethod yX3_hangingWith ∈ lw_ok := lw_in 376 (by decide +kernel) (by decide +kernel)
theorem wc_X3_hangingWith : Cond.code yX3_hangingWith cX3_hangingWith 7 (some .int) ∈ lw_ok := lw_in 377 (by decide +kernel) (by decide +kernel)
theorem wl_X3_90 : Cond.methodLink RX3 90 yX3_widened ∈ lw_ok := lw_in 378 (by decide +kernel) (by decide +kernel)
theorem wm_X3_widened : Cond.instanceMethod yX3_widened ∈ lw_ok := lw_in 380 (by decide +kernel) (by decide +kernel)
theorem wc_X3_widened : Cond.code yX3_widened cX3_widened 6 (some .int) ∈ lw_ok := lw_in 381 (by decide +kernel) (by decide +kernel)
theorem wl_X4_123 : Cond.methodLink RX4 123 yX4_sumOrNone ∈ lw_ok := lw_in 382 (by decide +kernel) (by decide +kernel)
theorem wm_X4_sumOrNone : Cond.instanceMethod yX4_sumOrNone ∈ lw_ok := lw_in 384 (by decide +kernel) (by decide +kernel)
theorem wc_X4_sumOrNone : Cond.code yX4_sumOrNone cX4_sumOrNone 3 (some .int) ∈ lw_ok := lw_in 385 (by decide +kernel) (by decide +kernel)
theorem wl_X4_144 : Cond.methodLink RX4 144 yX3_sumOf ∈ lw_ok := lw_in 386 (by decide +kernel) (by decide +kernel)
theorem wm_X3_sumOf : Cond.instanceMethod yX3_sumOf ∈ lw_ok := lw_in 387 (by decide +kernel) (by decide +kernel)
theorem ws_X3_sumOf : Cond.selects RX3 yX3_sumOf yX3_sumOf ∈ lw_ok := lw_in 388 (by decide +kernel) (by decide +kernel)
theorem wc_X3_sumOf : Cond.code yX3_sumOf cX3_sumOf 2 (some .int) ∈ lw_ok := lw_in 389 (by decide +kernel) (by decide +kernel)
theorem wl_X4_126 : Cond.methodLink RX4 126 yX2_findRow ∈ lw_ok := lw_in 390 (by decide +kernel) (by decide +kernel)
theorem wm_X2_findRow : Cond.instanceMethod yX2_findRow ∈ lw_ok := lw_in 391 (by decide +kernel) (by decide +kernel)
theorem ws_X2_findRow : Cond.selects RX2 yX2_findRow yX2_findRow ∈ lw_ok := lw_in 392 (by decide +kernel) (by decide +kernel)
theorem wc_X2_findRow : Cond.code yX2_findRow cX2_findRow 4 (some .boolean) ∈ lw_ok := lw_in 393 (by decide +kernel) (by decide +kernel)
theorem wl_X2_45 : Cond.methodLink RX2 45 yX2_findAny ∈ lw_ok := lw_in 394 (by decide +kernel) (by decide +kernel)
theorem wm_X2_findAny : Cond.instanceMethod yX2_findAny ∈ lw_ok := lw_in 395 (by decide +kernel) (by decide +kernel)
theorem ws_X2_findAny : Cond.selects RX2 yX2_findAny yX2_findAny ∈ lw_ok := lw_in 396 (by decide +kernel) (by decide +kernel)
theorem wc_X2_findAny : Cond.code yX2_findAny cX2_findAny 5 (some .boolean) ∈ lw_ok := lw_in 397 (by decide +kernel) (by decide +kernel)
theorem wl_X2_56 : Cond.methodLink RX2 56 yX2_begin ∈ lw_ok := lw_in 398 (by decide +kernel) (by decide +kernel)
theorem wm_X2_begin : Cond.instanceMethod yX2_begin ∈ lw_ok := lw_in 400 (by decide +kernel) (by decide +kernel)
theorem wc_X2_begin : Cond.code yX2_begin cX2_begin 5 none ∈ lw_ok := lw_in 401 (by decide +kernel) (by decide +kernel)
theorem wl_X2_66 : Cond.methodLink RX2 66 yX3_cornerCount ∈ lw_ok := lw_in 402 (by decide +kernel) (by decide +kernel)
theorem wl_X2_39 : Cond.methodLink RX2 39 yX3_postOf ∈ lw_ok := lw_in 403 (by decide +kernel) (by decide +kernel)
theorem wl_X2_76 : Cond.methodLink RX2 76 yX3_isTold ∈ lw_ok := lw_in 404 (by decide +kernel) (by decide +kernel)
theorem wm_X3_isTold : Cond.instanceMethod yX3_isTold ∈ lw_ok := lw_in 405 (by decide +kernel) (by decide +kernel)
theorem ws_X3_isTold : Cond.selects RX3 yX3_isTold yX3_isTold ∈ lw_ok := lw_in 406 (by decide +kernel) (by decide +kernel)
theorem wc_X3_isTold : Cond.code yX3_isTold cX3_isTold 2 (some .boolean) ∈ lw_ok := lw_in 407 (by decide +kernel) (by decide +kernel)
theorem wl_X2_60 : Cond.methodLink RX2 60 yX2_weigh ∈ lw_ok := lw_in 408 (by decide +kernel) (by decide +kernel)
theorem wm_X2_weigh : Cond.instanceMethod yX2_weigh ∈ lw_ok := lw_in 410 (by decide +kernel) (by decide +kernel)
theorem wc_X2_weigh : Cond.code yX2_weigh cX2_weigh 3 none ∈ lw_ok := lw_in 411 (by decide +kernel) (by decide +kernel)
theorem wl_X2_80 : Cond.methodLink RX2 80 yJ7_fill_53178 ∈ lw_ok := lw_in 412 (by decide +kernel) (by decide +kernel)
theorem wl_X2_86 : Cond.methodLink RX2 86 yX3_postCount ∈ lw_ok := lw_in 413 (by decide +kernel) (by decide +kernel)
theorem wl_X2_89 : Cond.methodLink RX2 89 yX3_sumOf ∈ lw_ok := lw_in 414 (by decide +kernel) (by decide +kernel)
theorem wl_X2_92 : Cond.methodLink RX2 92 yX3_allSums ∈ lw_ok := lw_in 415 (by decide +kernel) (by decide +kernel)
theorem wm_X3_allSums : Cond.instanceMethod yX3_allSums ∈ lw_ok := lw_in 416 (by decide +kernel) (by decide +kernel)
theorem ws_X3_allSums : Cond.selects RX3 yX3_allSums yX3_allSums ∈ lw_ok := lw_in 417 (by decide +kernel) (by decide +kernel)
theorem wc_X3_allSums : Cond.code yX3_allSums cX3_allSums 3 (some .int) ∈ lw_ok := lw_in 418 (by decide +kernel) (by decide +kernel)
theorem wl_X3_84 : Cond.methodLink RX3 84 yX3_isTold ∈ lw_ok := lw_in 419 (by decide +kernel) (by decide +kernel)
theorem wl_X2_95 : Cond.methodLink RX2 95 yX3_thirdCount ∈ lw_ok := lw_in 420 (by decide +kernel) (by decide +kernel)
theorem wl_X2_63 : Cond.methodLink RX2 63 yX2_level ∈ lw_ok := lw_in 421 (by decide +kernel) (by decide +kernel)
theorem wm_X2_level : Cond.instanceMethod yX2_level ∈ lw_ok := lw_in 423 (by decide +kernel) (by decide +kernel)
theorem wc_X2_level : Cond.code yX2_level cX2_level 5 none ∈ lw_ok := lw_in 424 (by decide +kernel) (by decide +kernel)
theorem wk_X2_98 : Cond.constant RX2 98 (1000000) ∈ lw_ok := lw_in 425 (by decide +kernel) (by decide +kernel)
theorem wl_X2_99 : Cond.methodLink RX2 99 Lib.Math.min.name ∈ lw_ok := lw_in 426 (by decide +kernel) (by decide +kernel)
theorem wt_J9_min_7cf53 : Cond.static Lib.Math.min.name ∈ lw_ok := lw_in 427 (by decide +kernel) (by decide +kernel)
theorem wc_J9_min_7cf53 : Cond.code Lib.Math.min.name Lib.Math.min.code 2 (some .int) ∈ lw_ok := lw_in 428 (by decide +kernel) (by decide +kernel)
theorem wl_X2_105 : Cond.methodLink RX2 105 yX2_push ∈ lw_ok := lw_in 429 (by decide +kernel) (by decide +kernel)
theorem wm_X2_push : Cond.instanceMethod yX2_push ∈ lw_ok := lw_in 431 (by decide +kernel) (by decide +kernel)
theorem wc_X2_push : Cond.code yX2_push cX2_push 7 (some .int) ∈ lw_ok := lw_in 432 (by decide +kernel) (by decide +kernel)
theorem wl_X2_109 : Cond.methodLink RX2 109 yX2_reaches ∈ lw_ok := lw_in 433 (by decide +kernel) (by decide +kernel)
theorem wm_X2_reaches : Cond.instanceMethod yX2_reaches ∈ lw_ok := lw_in 435 (by decide +kernel) (by decide +kernel)
theorem wc_X2_reaches : Cond.code yX2_reaches cX2_reaches 6 (some .boolean) ∈ lw_ok := lw_in 436 (by decide +kernel) (by decide +kernel)
theorem wl_X2_115 : Cond.methodLink RX2 115 yX2_seeFromThird ∈ lw_ok := lw_in 437 (by decide +kernel) (by decide +kernel)
theorem wm_X2_seeFromThird : Cond.instanceMethod yX2_seeFromThird ∈ lw_ok := lw_in 439 (by decide +kernel) (by decide +kernel)
theorem wc_X2_seeFromThird : Cond.code yX2_seeFromThird cX2_seeFromThird 7 (some .int) ∈ lw_ok := lw_in 440 (by decide +kernel) (by decide +kernel)
theorem wl_X2_121 : Cond.methodLink RX2 121 Lib.Math.max.name ∈ lw_ok := lw_in 441 (by decide +kernel) (by decide +kernel)
theorem wl_X2_118 : Cond.methodLink RX2 118 yX2_seeFromPost ∈ lw_ok := lw_in 442 (by decide +kernel) (by decide +kernel)
theorem wm_X2_seeFromPost : Cond.instanceMethod yX2_seeFromPost ∈ lw_ok := lw_in 444 (by decide +kernel) (by decide +kernel)
theorem wc_X2_seeFromPost : Cond.code yX2_seeFromPost cX2_seeFromPost 6 (some .int) ∈ lw_ok := lw_in 445 (by decide +kernel) (by decide +kernel)
theorem wl_X2_112 : Cond.methodLink RX2 112 yX2_nodeBefore ∈ lw_ok := lw_in 446 (by decide +kernel) (by decide +kernel)
theorem wm_X2_nodeBefore : Cond.instanceMethod yX2_nodeBefore ∈ lw_ok := lw_in 448 (by decide +kernel) (by decide +kernel)
theorem wc_X2_nodeBefore : Cond.code yX2_nodeBefore cX2_nodeBefore 3 (some .int) ∈ lw_ok := lw_in 449 (by decide +kernel) (by decide +kernel)
theorem wl_X2_52 : Cond.methodLink RX2 52 yX2_sink ∈ lw_ok := lw_in 450 (by decide +kernel) (by decide +kernel)
theorem wm_X2_sink : Cond.instanceMethod yX2_sink ∈ lw_ok := lw_in 452 (by decide +kernel) (by decide +kernel)
theorem wc_X2_sink : Cond.code yX2_sink cX2_sink 4 none ∈ lw_ok := lw_in 453 (by decide +kernel) (by decide +kernel)
theorem wl_X4_129 : Cond.methodLink RX4 129 yX2_givenAt ∈ lw_ok := lw_in 454 (by decide +kernel) (by decide +kernel)
theorem wm_X2_givenAt : Cond.instanceMethod yX2_givenAt ∈ lw_ok := lw_in 455 (by decide +kernel) (by decide +kernel)
theorem ws_X2_givenAt : Cond.selects RX2 yX2_givenAt yX2_givenAt ∈ lw_ok := lw_in 456 (by decide +kernel) (by decide +kernel)
theorem wc_X2_givenAt : Cond.code yX2_givenAt cX2_givenAt 4 (some .int) ∈ lw_ok := lw_in 457 (by decide +kernel) (by decide +kernel)
theorem wl_L_44 : Cond.methodLink RL 44 yX4_told ∈ lw_ok := lw_in 458 (by decide +kernel) (by decide +kernel)
theorem wm_X4_told : Cond.instanceMethod yX4_told ∈ lw_ok := lw_in 459 (by decide +kernel) (by decide +kernel)
theorem ws_X4_told : Cond.selects RX4 yX4_told yX4_told ∈ lw_ok := lw_in 460 (by decide +kernel) (by decide +kernel)
theorem wc_X4_told : Cond.code yX4_told cX4_told 2 (some .int) ∈ lw_ok := lw_in 461 (by decide +kernel) (by decide +kernel)
theorem wl_X4_132 : Cond.methodLink RX4 132 yX3_sidesWith ∈ lw_ok := lw_in 462 (by decide +kernel) (by decide +kernel)
theorem wm_X3_sidesWith : Cond.instanceMethod yX3_sidesWith ∈ lw_ok := lw_in 463 (by decide +kernel) (by decide +kernel)
theorem ws_X3_sidesWith : Cond.selects RX3 yX3_sidesWith yX3_sidesWith ∈ lw_ok := lw_in 464 (by decide +kernel) (by decide +kernel)
theorem wc_X3_sidesWith : Cond.code yX3_sidesWith cX3_sidesWith 4 (some .int) ∈ lw_ok := lw_in 465 (by decide +kernel) (by decide +kernel)
theorem wl_X4_135 : Cond.methodLink RX4 135 yX3_character ∈ lw_ok := lw_in 466 (by decide +kernel) (by decide +kernel)
theorem wm_X3_character : Cond.instanceMethod yX3_character ∈ lw_ok := lw_in 467 (by decide +kernel) (by decide +kernel)
theorem ws_X3_character : Cond.selects RX3 yX3_character yX3_character ∈ lw_ok := lw_in 468 (by decide +kernel) (by decide +kernel)
theorem wc_X3_character : Cond.code yX3_character cX3_character 3 (some .int) ∈ lw_ok := lw_in 469 (by decide +kernel) (by decide +kernel)
theorem wl_X3_81 : Cond.methodLink RX3 81 yX3_sidesWith ∈ lw_ok := lw_in 470 (by decide +kernel) (by decide +kernel)
theorem wl_X4_138 : Cond.methodLink RX4 138 yX3_pieces ∈ lw_ok := lw_in 471 (by decide +kernel) (by decide +kernel)
theorem wm_X3_pieces : Cond.instanceMethod yX3_pieces ∈ lw_ok := lw_in 472 (by decide +kernel) (by decide +kernel)
theorem ws_X3_pieces : Cond.selects RX3 yX3_pieces yX3_pieces ∈ lw_ok := lw_in 473 (by decide +kernel) (by decide +kernel)
theorem wc_X3_pieces : Cond.code yX3_pieces cX3_pieces 4 (some .int) ∈ lw_ok := lw_in 474 (by decide +kernel) (by decide +kernel)
theorem wl_X4_141 : Cond.methodLink RX4 141 yX3_allSums ∈ lw_ok := lw_in 475 (by decide +kernel) (by decide +kernel)
theorem wl_L_48 : Cond.methodLink RL 48 yX4_straight ∈ lw_ok := lw_in 476 (by decide +kernel) (by decide +kernel)
theorem wm_X4_straight : Cond.instanceMethod yX4_straight ∈ lw_ok := lw_in 477 (by decide +kernel) (by decide +kernel)
theorem ws_X4_straight : Cond.selects RX4 yX4_straight yX4_straight ∈ lw_ok := lw_in 478 (by decide +kernel) (by decide +kernel)
theorem wc_X4_straight : Cond.code yX4_straight cX4_straight 3 (some .int) ∈ lw_ok := lw_in 479 (by decide +kernel) (by decide +kernel)
theorem wl_L_52 : Cond.methodLink RL 52 yX4_least ∈ lw_ok := lw_in 480 (by decide +kernel) (by decide +kernel)
theorem wm_X4_least : Cond.instanceMethod yX4_least ∈ lw_ok := lw_in 481 (by decide +kernel) (by decide +kernel)
theorem ws_X4_least : Cond.selects RX4 yX4_least yX4_least ∈ lw_ok := lw_in 482 (by decide +kernel) (by decide +kernel)
theorem wc_X4_least : Cond.code yX4_least cX4_least 3 (some .int) ∈ lw_ok := lw_in 483 (by decide +kernel) (by decide +kernel)
theorem wl_L_56 : Cond.methodLink RL 56 yX4_tell ∈ lw_ok := lw_in 484 (by decide +kernel) (by decide +kernel)
theorem wm_X4_tell : Cond.instanceMethod yX4_tell ∈ lw_ok := lw_in 485 (by decide +kernel) (by decide +kernel)
theorem ws_X4_tell : Cond.selects RX4 yX4_tell yX4_tell ∈ lw_ok := lw_in 486 (by decide +kernel) (by decide +kernel)
theorem wc_X4_tell : Cond.code yX4_tell cX4_tell 4 (some .int) ∈ lw_ok := lw_in 487 (by decide +kernel) (by decide +kernel)
theorem wl_L_60 : Cond.methodLink RL 60 yX4_can ∈ lw_ok := lw_in 488 (by decide +kernel) (by decide +kernel)
theorem wm_X4_can : Cond.instanceMethod yX4_can ∈ lw_ok := lw_in 489 (by decide +kernel) (by decide +kernel)
theorem ws_X4_can : Cond.selects RX4 yX4_can yX4_can ∈ lw_ok := lw_in 490 (by decide +kernel) (by decide +kernel)
theorem wc_X4_can : Cond.code yX4_can cX4_can 1 (some .int) ∈ lw_ok := lw_in 491 (by decide +kernel) (by decide +kernel)
theorem wl_L_65 : Cond.methodLink RL 65 yX4_angle ∈ lw_ok := lw_in 492 (by decide +kernel) (by decide +kernel)
theorem wm_X4_angle : Cond.instanceMethod yX4_angle ∈ lw_ok := lw_in 493 (by decide +kernel) (by decide +kernel)
theorem ws_X4_angle : Cond.selects RX4 yX4_angle yX4_angle ∈ lw_ok := lw_in 494 (by decide +kernel) (by decide +kernel)
theorem wc_X4_angle : Cond.code yX4_angle cX4_angle 2 (some .int) ∈ lw_ok := lw_in 495 (by decide +kernel) (by decide +kernel)
theorem wl_X4_147 : Cond.methodLink RX4 147 yX2_given ∈ lw_ok := lw_in 496 (by decide +kernel) (by decide +kernel)
theorem wm_X2_given : Cond.instanceMethod yX2_given ∈ lw_ok := lw_in 497 (by decide +kernel) (by decide +kernel)
theorem ws_X2_given : Cond.selects RX2 yX2_given yX2_given ∈ lw_ok := lw_in 498 (by decide +kernel) (by decide +kernel)
theorem wc_X2_given : Cond.code yX2_given cX2_given 2 (some .int) ∈ lw_ok := lw_in 499 (by decide +kernel) (by decide +kernel)
theorem wl_L_69 : Cond.methodLink RL 69 yX4_best ∈ lw_ok := lw_in 500 (by decide +kernel) (by decide +kernel)
theorem wm_X4_best : Cond.instanceMethod yX4_best ∈ lw_ok := lw_in 501 (by decide +kernel) (by decide +kernel)
theorem ws_X4_best : Cond.selects RX4 yX4_best yX4_best ∈ lw_ok := lw_in 502 (by decide +kernel) (by decide +kernel)
theorem wc_X4_best : Cond.code yX4_best cX4_best 5 (some .int) ∈ lw_ok := lw_in 503 (by decide +kernel) (by decide +kernel)
theorem wl_X4_150 : Cond.methodLink RX4 150 Lib.Math.min.name ∈ lw_ok := lw_in 504 (by decide +kernel) (by decide +kernel)
theorem wl_X4_155 : Cond.methodLink RX4 155 yX2_findAny ∈ lw_ok := lw_in 505 (by decide +kernel) (by decide +kernel)
theorem wl_L_73 : Cond.methodLink RL 73 yX4_bar ∈ lw_ok := lw_in 506 (by decide +kernel) (by decide +kernel)
theorem wm_X4_bar : Cond.instanceMethod yX4_bar ∈ lw_ok := lw_in 507 (by decide +kernel) (by decide +kernel)
theorem ws_X4_bar : Cond.selects RX4 yX4_bar yX4_bar ∈ lw_ok := lw_in 508 (by decide +kernel) (by decide +kernel)
theorem wc_X4_bar : Cond.code yX4_bar cX4_bar 2 (some .int) ∈ lw_ok := lw_in 509 (by decide +kernel) (by decide +kernel)
theorem wl_X4_158 : Cond.methodLink RX4 158 yX1_fewest ∈ lw_ok := lw_in 510 (by decide +kernel) (by decide +kernel)
theorem wm_X1_fewest : Cond.instanceMethod yX1_fewest ∈ lw_ok := lw_in 511 (by decide +kernel) (by decide +kernel)
theorem ws_X1_fewest : Cond.selects RX1 yX1_fewest yX1_fewest ∈ lw_ok := lw_in 512 (by decide +kernel) (by decide +kernel)
theorem wc_X1_fewest : Cond.code yX1_fewest cX1_fewest 8 (some .int) ∈ lw_ok := lw_in 513 (by decide +kernel) (by decide +kernel)
theorem wl_X1_32 : Cond.methodLink RX1 32 yX1_lookAtPosts ∈ lw_ok := lw_in 514 (by decide +kernel) (by decide +kernel)
theorem wm_X1_lookAtPosts : Cond.instanceMethod yX1_lookAtPosts ∈ lw_ok := lw_in 516 (by decide +kernel) (by decide +kernel)
theorem wc_X1_lookAtPosts : Cond.code yX1_lookAtPosts cX1_lookAtPosts 6 none ∈ lw_ok := lw_in 517 (by decide +kernel) (by decide +kernel)
theorem wl_X1_56 : Cond.methodLink RX1 56 yX3_postCount ∈ lw_ok := lw_in 518 (by decide +kernel) (by decide +kernel)
theorem wl_X1_61 : Cond.methodLink RX1 61 yX3_sumOf ∈ lw_ok := lw_in 519 (by decide +kernel) (by decide +kernel)
theorem wl_X1_64 : Cond.methodLink RX1 64 yX3_cornersAt ∈ lw_ok := lw_in 520 (by decide +kernel) (by decide +kernel)
theorem wl_X1_67 : Cond.methodLink RX1 67 yX3_isTold ∈ lw_ok := lw_in 521 (by decide +kernel) (by decide +kernel)
theorem wl_X1_36 : Cond.methodLink RX1 36 yX1_lookAtThirds ∈ lw_ok := lw_in 522 (by decide +kernel) (by decide +kernel)
theorem wm_X1_lookAtThirds : Cond.instanceMethod yX1_lookAtThirds ∈ lw_ok := lw_in 524 (by decide +kernel) (by decide +kernel)
theorem wc_X1_lookAtThirds : Cond.code yX1_lookAtThirds cX1_lookAtThirds 5 none ∈ lw_ok := lw_in 525 (by decide +kernel) (by decide +kernel)
theorem wl_X1_71 : Cond.methodLink RX1 71 yX3_thirdCount ∈ lw_ok := lw_in 526 (by decide +kernel) (by decide +kernel)
theorem wl_X1_74 : Cond.methodLink RX1 74 yX3_postOf ∈ lw_ok := lw_in 527 (by decide +kernel) (by decide +kernel)
theorem wl_X1_39 : Cond.methodLink RX1 39 yX1_thirdsAtToldPosts ∈ lw_ok := lw_in 528 (by decide +kernel) (by decide +kernel)
theorem wm_X1_thirdsAtToldPosts : Cond.instanceMethod yX1_thirdsAtToldPosts ∈ lw_ok := lw_in 530 (by decide +kernel) (by decide +kernel)
theorem wc_X1_thirdsAtToldPosts : Cond.code yX1_thirdsAtToldPosts cX1_thirdsAtToldPosts 3 (some .int) ∈ lw_ok := lw_in 531 (by decide +kernel) (by decide +kernel)
theorem wl_X1_46 : Cond.methodLink RX1 46 yJ6_bitCount_0f7a4 ∈ lw_ok := lw_in 532 (by decide +kernel) (by decide +kernel)
theorem wt_J6_bitCount_0f7a4 : Cond.static yJ6_bitCount_0f7a4 ∈ lw_ok := lw_in 533 (by decide +kernel) (by decide +kernel)
theorem wc_J6_bitCount_0f7a4 : Cond.code yJ6_bitCount_0f7a4 cJ6_bitCount_0f7a4 1 (some .int) ∈ lw_ok := lw_in 534 (by decide +kernel) (by decide +kernel)
theorem wk_J6_265 : Cond.constant RJ6 265 (1431655765) ∈ lw_ok := lw_in 535 (by decide +kernel) (by decide +kernel)
theorem wk_J6_266 : Cond.constant RJ6 266 (858993459) ∈ lw_ok := lw_in 536 (by decide +kernel) (by decide +kernel)
theorem wk_J6_267 : Cond.constant RJ6 267 (252645135) ∈ lw_ok := lw_in 537 (by decide +kernel) (by decide +kernel)
theorem wl_X1_52 : Cond.methodLink RX1 52 yX1_isBar ∈ lw_ok := lw_in 538 (by decide +kernel) (by decide +kernel)
theorem wm_X1_isBar : Cond.instanceMethod yX1_isBar ∈ lw_ok := lw_in 540 (by decide +kernel) (by decide +kernel)
theorem wc_X1_isBar : Cond.code yX1_isBar cX1_isBar 3 (some .boolean) ∈ lw_ok := lw_in 541 (by decide +kernel) (by decide +kernel)
theorem wl_X1_77 : Cond.methodLink RX1 77 yX1_roomFor ∈ lw_ok := lw_in 542 (by decide +kernel) (by decide +kernel)
theorem wm_X1_roomFor : Cond.instanceMethod yX1_roomFor ∈ lw_ok := lw_in 544 (by decide +kernel) (by decide +kernel)
theorem wc_X1_roomFor : Cond.code yX1_roomFor cX1_roomFor 3 (some .int) ∈ lw_ok := lw_in 545 (by decide +kernel) (by decide +kernel)
theorem wl_X1_80 : Cond.methodLink RX1 80 yX1_mostOf ∈ lw_ok := lw_in 546 (by decide +kernel) (by decide +kernel)
theorem wm_X1_mostOf : Cond.instanceMethod yX1_mostOf ∈ lw_ok := lw_in 548 (by decide +kernel) (by decide +kernel)
theorem wc_X1_mostOf : Cond.code yX1_mostOf cX1_mostOf 5 (some .int) ∈ lw_ok := lw_in 549 (by decide +kernel) (by decide +kernel)
theorem wl_X1_83 : Cond.methodLink RX1 83 yX1_leastOf ∈ lw_ok := lw_in 550 (by decide +kernel) (by decide +kernel)
theorem wm_X1_leastOf : Cond.instanceMethod yX1_leastOf ∈ lw_ok := lw_in 552 (by decide +kernel) (by decide +kernel)
theorem wc_X1_leastOf : Cond.code yX1_leastOf cX1_leastOf 5 (some .int) ∈ lw_ok := lw_in 553 (by decide +kernel) (by decide +kernel)
theorem wl_L_77 : Cond.methodLink RL 77 yX4_opposite ∈ lw_ok := lw_in 554 (by decide +kernel) (by decide +kernel)
theorem wm_X4_opposite : Cond.instanceMethod yX4_opposite ∈ lw_ok := lw_in 555 (by decide +kernel) (by decide +kernel)
theorem ws_X4_opposite : Cond.selects RX4 yX4_opposite yX4_opposite ∈ lw_ok := lw_in 556 (by decide +kernel) (by decide +kernel)
theorem wc_X4_opposite : Cond.code yX4_opposite cX4_opposite 3 (some .int) ∈ lw_ok := lw_in 557 (by decide +kernel) (by decide +kernel)
theorem wl_X4_161 : Cond.methodLink RX4 161 yX4_givenOpposite ∈ lw_ok := lw_in 558 (by decide +kernel) (by decide +kernel)
theorem wm_X4_givenOpposite : Cond.instanceMethod yX4_givenOpposite ∈ lw_ok := lw_in 560 (by decide +kernel) (by decide +kernel)
theorem wc_X4_givenOpposite : Cond.code yX4_givenOpposite cX4_givenOpposite 4 (some .int) ∈ lw_ok := lw_in 561 (by decide +kernel) (by decide +kernel)
theorem wl_L_81 : Cond.methodLink RL 81 yX4_fit ∈ lw_ok := lw_in 562 (by decide +kernel) (by decide +kernel)
theorem wm_X4_fit : Cond.instanceMethod yX4_fit ∈ lw_ok := lw_in 563 (by decide +kernel) (by decide +kernel)
theorem ws_X4_fit : Cond.selects RX4 yX4_fit yX4_fit ∈ lw_ok := lw_in 564 (by decide +kernel) (by decide +kernel)
theorem wc_X4_fit : Cond.code yX4_fit cX4_fit 4 (some .int) ∈ lw_ok := lw_in 565 (by decide +kernel) (by decide +kernel)
theorem wl_L_85 : Cond.methodLink RL 85 yX4_undo ∈ lw_ok := lw_in 566 (by decide +kernel) (by decide +kernel)
theorem wm_X4_undo : Cond.instanceMethod yX4_undo ∈ lw_ok := lw_in 567 (by decide +kernel) (by decide +kernel)
theorem ws_X4_undo : Cond.selects RX4 yX4_undo yX4_undo ∈ lw_ok := lw_in 568 (by decide +kernel) (by decide +kernel)
theorem wc_X4_undo : Cond.code yX4_undo cX4_undo 1 (some .int) ∈ lw_ok := lw_in 569 (by decide +kernel) (by decide +kernel)
theorem wl_X4_164 : Cond.methodLink RX4 164 yX0_behind ∈ lw_ok := lw_in 570 (by decide +kernel) (by decide +kernel)
theorem wm_X0_behind : Cond.instanceMethod yX0_behind ∈ lw_ok := lw_in 571 (by decide +kernel) (by decide +kernel)
theorem ws_X0_behind : Cond.selects RX0 yX0_behind yX0_behind ∈ lw_ok := lw_in 572 (by decide +kernel) (by decide +kernel)
theorem wc_X0_behind : Cond.code yX0_behind cX0_behind 1 (some .int) ∈ lw_ok := lw_in 573 (by decide +kernel) (by decide +kernel)
theorem wl_X4_167 : Cond.methodLink RX4 167 yX0_backward ∈ lw_ok := lw_in 574 (by decide +kernel) (by decide +kernel)
theorem wm_X0_backward : Cond.instanceMethod yX0_backward ∈ lw_ok := lw_in 575 (by decide +kernel) (by decide +kernel)
theorem ws_X0_backward : Cond.selects RX0 yX0_backward yX0_backward ∈ lw_ok := lw_in 576 (by decide +kernel) (by decide +kernel)
theorem wc_X0_backward : Cond.code yX0_backward cX0_backward 2 none ∈ lw_ok := lw_in 577 (by decide +kernel) (by decide +kernel)
theorem wl_L_89 : Cond.methodLink RL 89 yX4_redo ∈ lw_ok := lw_in 578 (by decide +kernel) (by decide +kernel)
theorem wm_X4_redo : Cond.instanceMethod yX4_redo ∈ lw_ok := lw_in 579 (by decide +kernel) (by decide +kernel)
theorem ws_X4_redo : Cond.selects RX4 yX4_redo yX4_redo ∈ lw_ok := lw_in 580 (by decide +kernel) (by decide +kernel)
theorem wc_X4_redo : Cond.code yX4_redo cX4_redo 1 (some .int) ∈ lw_ok := lw_in 581 (by decide +kernel) (by decide +kernel)
theorem wl_X4_170 : Cond.methodLink RX4 170 yX0_ahead ∈ lw_ok := lw_in 582 (by decide +kernel) (by decide +kernel)
theorem wm_X0_ahead : Cond.instanceMethod yX0_ahead ∈ lw_ok := lw_in 583 (by decide +kernel) (by decide +kernel)
theorem ws_X0_ahead : Cond.selects RX0 yX0_ahead yX0_ahead ∈ lw_ok := lw_in 584 (by decide +kernel) (by decide +kernel)
theorem wc_X0_ahead : Cond.code yX0_ahead cX0_ahead 1 (some .int) ∈ lw_ok := lw_in 585 (by decide +kernel) (by decide +kernel)
theorem wq_L_10 : Cond.classLink RL 10 RX5 ∈ lw_ok := lw_in 586 (by decide +kernel) (by decide +kernel)
theorem wx_X5 : Cond.instantiable RX5 19 ∈ lw_ok := lw_in 587 (by decide +kernel) (by decide +kernel)
theorem wl_L_12 : Cond.methodLink RL 12 yX5_init ∈ lw_ok := lw_in 588 (by decide +kernel) (by decide +kernel)
theorem wm_X5_init : Cond.instanceMethod yX5_init ∈ lw_ok := lw_in 589 (by decide +kernel) (by decide +kernel)
theorem wc_X5_init : Cond.code yX5_init cX5_init 1 none ∈ lw_ok := lw_in 590 (by decide +kernel) (by decide +kernel)
theorem wl_X5_1 : Cond.methodLink RX5 1 objectInit ∈ lw_ok := lw_in 591 (by decide +kernel) (by decide +kernel)
theorem wl_X5_50 : Cond.methodLink RX5 50 yX5_begin ∈ lw_ok := lw_in 592 (by decide +kernel) (by decide +kernel)
theorem wm_X5_begin : Cond.instanceMethod yX5_begin ∈ lw_ok := lw_in 594 (by decide +kernel) (by decide +kernel)
theorem wc_X5_begin : Cond.code yX5_begin cX5_begin 2 none ∈ lw_ok := lw_in 595 (by decide +kernel) (by decide +kernel)
theorem wf_X5_7 : Cond.fieldLink RX5 7 "AngleNetModel" "posts" "I" ∈ lw_ok := lw_in 596 (by decide +kernel) (by decide +kernel)
theorem wf_X5_53 : Cond.fieldLink RX5 53 "AngleNetModel" "thirds" "I" ∈ lw_ok := lw_in 597 (by decide +kernel) (by decide +kernel)
theorem wf_X5_13 : Cond.fieldLink RX5 13 "AngleNetModel" "corner" "[I" ∈ lw_ok := lw_in 598 (by decide +kernel) (by decide +kernel)
theorem wf_X5_17 : Cond.fieldLink RX5 17 "AngleNetModel" "straight" "I" ∈ lw_ok := lw_in 599 (by decide +kernel) (by decide +kernel)
theorem wf_X5_20 : Cond.fieldLink RX5 20 "AngleNetModel" "least" "I" ∈ lw_ok := lw_in 600 (by decide +kernel) (by decide +kernel)
theorem wf_X5_23 : Cond.fieldLink RX5 23 "AngleNetModel" "sum" "[I" ∈ lw_ok := lw_in 601 (by decide +kernel) (by decide +kernel)
theorem wf_X5_62 : Cond.fieldLink RX5 62 "AngleNetModel" "isLaid" "Z" ∈ lw_ok := lw_in 602 (by decide +kernel) (by decide +kernel)
theorem wf_X5_159 : Cond.fieldLink RX5 159 "AngleNetModel" "isGiven" "Z" ∈ lw_ok := lw_in 603 (by decide +kernel) (by decide +kernel)
theorem wf_X5_26 : Cond.fieldLink RX5 26 "AngleNetModel" "beyond" "[I" ∈ lw_ok := lw_in 604 (by decide +kernel) (by decide +kernel)
theorem wf_X5_56 : Cond.fieldLink RX5 56 "AngleNetModel" "acts" "I" ∈ lw_ok := lw_in 605 (by decide +kernel) (by decide +kernel)
theorem wf_X5_59 : Cond.fieldLink RX5 59 "AngleNetModel" "done" "I" ∈ lw_ok := lw_in 606 (by decide +kernel) (by decide +kernel)
theorem wf_X5_29 : Cond.fieldLink RX5 29 "AngleNetModel" "act" "[I" ∈ lw_ok := lw_in 607 (by decide +kernel) (by decide +kernel)
theorem wf_X5_32 : Cond.fieldLink RX5 32 "AngleNetModel" "mark" "[I" ∈ lw_ok := lw_in 608 (by decide +kernel) (by decide +kernel)
theorem wf_X5_35 : Cond.fieldLink RX5 35 "AngleNetModel" "spare" "[I" ∈ lw_ok := lw_in 609 (by decide +kernel) (by decide +kernel)
theorem wf_X5_38 : Cond.fieldLink RX5 38 "AngleNetModel" "lack" "[I" ∈ lw_ok := lw_in 610 (by decide +kernel) (by decide +kernel)
theorem wf_X5_41 : Cond.fieldLink RX5 41 "AngleNetModel" "before" "[I" ∈ lw_ok := lw_in 611 (by decide +kernel) (by decide +kernel)
theorem wf_X5_44 : Cond.fieldLink RX5 44 "AngleNetModel" "via" "[I" ∈ lw_ok := lw_in 612 (by decide +kernel) (by decide +kernel)
theorem wf_X5_47 : Cond.fieldLink RX5 47 "AngleNetModel" "queue" "[I" ∈ lw_ok := lw_in 613 (by decide +kernel) (by decide +kernel)
theorem wf_X5_129 : Cond.fieldLink RX5 129 "AngleNetModel" "queued" "I" ∈ lw_ok := lw_in 614 (by decide +kernel) (by decide +kernel)
theorem wl_L_17 : Cond.methodLink RL 17 yX5_posts ∈ lw_ok := lw_in 654 (by decide +kernel) (by decide +kernel)
theorem wm_X5_posts : Cond.instanceMethod yX5_posts ∈ lw_ok := lw_in 655 (by decide +kernel) (by decide +kernel)
theorem ws_X5_posts : Cond.selects RX5 yX5_posts yX5_posts ∈ lw_ok := lw_in 656 (by decide +kernel) (by decide +kernel)
theorem wc_X5_posts : Cond.code yX5_posts cX5_posts 3 (some .int) ∈ lw_ok := lw_in 657 (by decide +kernel) (by decide +kernel)
theorem wl_X5_66 : Cond.methodLink RX5 66 yX5_in ∈ lw_ok := lw_in 658 (by decide +kernel) (by decide +kernel)
theorem wt_X5_in : Cond.static yX5_in ∈ lw_ok := lw_in 659 (by decide +kernel) (by decide +kernel)
theorem wc_X5_in : Cond.code yX5_in cX5_in 3 (some .boolean) ∈ lw_ok := lw_in 660 (by decide +kernel) (by decide +kernel)
theorem wl_L_22 : Cond.methodLink RL 22 yX5_third ∈ lw_ok := lw_in 661 (by decide +kernel) (by decide +kernel)
theorem wm_X5_third : Cond.instanceMethod yX5_third ∈ lw_ok := lw_in 662 (by decide +kernel) (by decide +kernel)
theorem ws_X5_third : Cond.selects RX5 yX5_third yX5_third ∈ lw_ok := lw_in 663 (by decide +kernel) (by decide +kernel)
theorem wc_X5_third : Cond.code yX5_third cX5_third 4 (some .int) ∈ lw_ok := lw_in 664 (by decide +kernel) (by decide +kernel)
theorem wl_X5_78 : Cond.methodLink RX5 78 yX5_arePair ∈ lw_ok := lw_in 665 (by decide +kernel) (by decide +kernel)
theorem wm_X5_arePair : Cond.instanceMethod yX5_arePair ∈ lw_ok := lw_in 667 (by decide +kernel) (by decide +kernel)
theorem wc_X5_arePair : Cond.code yX5_arePair cX5_arePair 3 (some .boolean) ∈ lw_ok := lw_in 668 (by decide +kernel) (by decide +kernel)
theorem wl_X5_70 : Cond.methodLink RX5 70 yX5_isPost ∈ lw_ok := lw_in 669 (by decide +kernel) (by decide +kernel)
theorem wm_X5_isPost : Cond.instanceMethod yX5_isPost ∈ lw_ok := lw_in 671 (by decide +kernel) (by decide +kernel)
theorem wc_X5_isPost : Cond.code yX5_isPost cX5_isPost 2 (some .boolean) ∈ lw_ok := lw_in 672 (by decide +kernel) (by decide +kernel)
theorem wl_X5_74 : Cond.methodLink RX5 74 yX5_arrowOf ∈ lw_ok := lw_in 673 (by decide +kernel) (by decide +kernel)
theorem wm_X5_arrowOf : Cond.instanceMethod yX5_arrowOf ∈ lw_ok := lw_in 675 (by decide +kernel) (by decide +kernel)
theorem wc_X5_arrowOf : Cond.code yX5_arrowOf cX5_arrowOf 4 (some .int) ∈ lw_ok := lw_in 676 (by decide +kernel) (by decide +kernel)
theorem wl_X5_82 : Cond.methodLink RX5 82 yX5_put ∈ lw_ok := lw_in 677 (by decide +kernel) (by decide +kernel)
theorem wm_X5_put : Cond.instanceMethod yX5_put ∈ lw_ok := lw_in 679 (by decide +kernel) (by decide +kernel)
theorem wc_X5_put : Cond.code yX5_put cX5_put 5 none ∈ lw_ok := lw_in 680 (by decide +kernel) (by decide +kernel)
theorem wl_X5_86 : Cond.methodLink RX5 86 yX5_write ∈ lw_ok := lw_in 681 (by decide +kernel) (by decide +kernel)
theorem wm_X5_write : Cond.instanceMethod yX5_write ∈ lw_ok := lw_in 683 (by decide +kernel) (by decide +kernel)
theorem wc_X5_write : Cond.code yX5_write cX5_write 5 none ∈ lw_ok := lw_in 684 (by decide +kernel) (by decide +kernel)
theorem wl_X5_90 : Cond.methodLink RX5 90 yX5_keepThirds ∈ lw_ok := lw_in 685 (by decide +kernel) (by decide +kernel)
theorem wm_X5_keepThirds : Cond.instanceMethod yX5_keepThirds ∈ lw_ok := lw_in 687 (by decide +kernel) (by decide +kernel)
theorem wc_X5_keepThirds : Cond.code yX5_keepThirds cX5_keepThirds 5 none ∈ lw_ok := lw_in 688 (by decide +kernel) (by decide +kernel)
theorem wl_L_26 : Cond.methodLink RL 26 yX5_at ∈ lw_ok := lw_in 689 (by decide +kernel) (by decide +kernel)
theorem wm_X5_at : Cond.instanceMethod yX5_at ∈ lw_ok := lw_in 690 (by decide +kernel) (by decide +kernel)
theorem ws_X5_at : Cond.selects RX5 yX5_at yX5_at ∈ lw_ok := lw_in 691 (by decide +kernel) (by decide +kernel)
theorem wc_X5_at : Cond.code yX5_at cX5_at 2 (some .int) ∈ lw_ok := lw_in 692 (by decide +kernel) (by decide +kernel)
theorem wl_L_31 : Cond.methodLink RL 31 yX5_side ∈ lw_ok := lw_in 693 (by decide +kernel) (by decide +kernel)
theorem wm_X5_side : Cond.instanceMethod yX5_side ∈ lw_ok := lw_in 694 (by decide +kernel) (by decide +kernel)
theorem ws_X5_side : Cond.selects RX5 yX5_side yX5_side ∈ lw_ok := lw_in 695 (by decide +kernel) (by decide +kernel)
theorem wc_X5_side : Cond.code yX5_side cX5_side 3 (some .int) ∈ lw_ok := lw_in 696 (by decide +kernel) (by decide +kernel)
theorem wl_X5_93 : Cond.methodLink RX5 93 yX5_sideOf ∈ lw_ok := lw_in 697 (by decide +kernel) (by decide +kernel)
theorem wm_X5_sideOf : Cond.instanceMethod yX5_sideOf ∈ lw_ok := lw_in 699 (by decide +kernel) (by decide +kernel)
theorem wc_X5_sideOf : Cond.code yX5_sideOf cX5_sideOf 3 (some .int) ∈ lw_ok := lw_in 700 (by decide +kernel) (by decide +kernel)
theorem wl_L_35 : Cond.methodLink RL 35 yX5_arrow ∈ lw_ok := lw_in 701 (by decide +kernel) (by decide +kernel)
theorem wm_X5_arrow : Cond.instanceMethod yX5_arrow ∈ lw_ok := lw_in 702 (by decide +kernel) (by decide +kernel)
theorem ws_X5_arrow : Cond.selects RX5 yX5_arrow yX5_arrow ∈ lw_ok := lw_in 703 (by decide +kernel) (by decide +kernel)
theorem wc_X5_arrow : Cond.code yX5_arrow cX5_arrow 3 (some .int) ∈ lw_ok := lw_in 704 (by decide +kernel) (by decide +kernel)
theorem wl_L_39 : Cond.methodLink RL 39 yX5_turn ∈ lw_ok := lw_in 705 (by decide +kernel) (by decide +kernel)
theorem wm_X5_turn : Cond.instanceMethod yX5_turn ∈ lw_ok := lw_in 706 (by decide +kernel) (by decide +kernel)
theorem ws_X5_turn : Cond.selects RX5 yX5_turn yX5_turn ∈ lw_ok := lw_in 707 (by decide +kernel) (by decide +kernel)
theorem wc_X5_turn : Cond.code yX5_turn cX5_turn 7 (some .int) ∈ lw_ok := lw_in 708 (by decide +kernel) (by decide +kernel)
theorem wl_X5_96 : Cond.methodLink RX5 96 yX5_oppositeCorner ∈ lw_ok := lw_in 709 (by decide +kernel) (by decide +kernel)
theorem wm_X5_oppositeCorner : Cond.instanceMethod yX5_oppositeCorner ∈ lw_ok := lw_in 711 (by decide +kernel) (by decide +kernel)
theorem wc_X5_oppositeCorner : Cond.code yX5_oppositeCorner cX5_oppositeCorner 5 (some .int) ∈ lw_ok := lw_in 712 (by decide +kernel) (by decide +kernel)
theorem wl_L_59 : Cond.methodLink RL 59 yX5_tell ∈ lw_ok := lw_in 713 (by decide +kernel) (by decide +kernel)
theorem wm_X5_tell : Cond.instanceMethod yX5_tell ∈ lw_ok := lw_in 714 (by decide +kernel) (by decide +kernel)
theorem ws_X5_tell : Cond.selects RX5 yX5_tell yX5_tell ∈ lw_ok := lw_in 715 (by decide +kernel) (by decide +kernel)
theorem wc_X5_tell : Cond.code yX5_tell cX5_tell 4 (some .int) ∈ lw_ok := lw_in 716 (by decide +kernel) (by decide +kernel)
theorem wl_L_88 : Cond.methodLink RL 88 yX5_undo ∈ lw_ok := lw_in 717 (by decide +kernel) (by decide +kernel)
theorem wm_X5_undo : Cond.instanceMethod yX5_undo ∈ lw_ok := lw_in 718 (by decide +kernel) (by decide +kernel)
theorem ws_X5_undo : Cond.selects RX5 yX5_undo yX5_undo ∈ lw_ok := lw_in 719 (by decide +kernel) (by decide +kernel)
theorem wc_X5_undo : Cond.code yX5_undo cX5_undo 2 (some .int) ∈ lw_ok := lw_in 720 (by decide +kernel) (by decide +kernel)
theorem wl_X5_100 : Cond.methodLink RX5 100 yX5_takeThirds ∈ lw_ok := lw_in 721 (by decide +kernel) (by decide +kernel)
theorem wm_X5_takeThirds : Cond.instanceMethod yX5_takeThirds ∈ lw_ok := lw_in 723 (by decide +kernel) (by decide +kernel)
theorem wc_X5_takeThirds : Cond.code yX5_takeThirds cX5_takeThirds 5 none ∈ lw_ok := lw_in 724 (by decide +kernel) (by decide +kernel)
theorem wl_L_92 : Cond.methodLink RL 92 yX5_redo ∈ lw_ok := lw_in 725 (by decide +kernel) (by decide +kernel)
theorem wm_X5_redo : Cond.instanceMethod yX5_redo ∈ lw_ok := lw_in 726 (by decide +kernel) (by decide +kernel)
theorem ws_X5_redo : Cond.selects RX5 yX5_redo yX5_redo ∈ lw_ok := lw_in 727 (by decide +kernel) (by decide +kernel)
theorem wc_X5_redo : Cond.code yX5_redo cX5_redo 2 (some .int) ∈ lw_ok := lw_in 728 (by decide +kernel) (by decide +kernel)
theorem wl_L_43 : Cond.methodLink RL 43 yX5_about ∈ lw_ok := lw_in 729 (by decide +kernel) (by decide +kernel)
theorem wm_X5_about : Cond.instanceMethod yX5_about ∈ lw_ok := lw_in 730 (by decide +kernel) (by decide +kernel)
theorem ws_X5_about : Cond.selects RX5 yX5_about yX5_about ∈ lw_ok := lw_in 731 (by decide +kernel) (by decide +kernel)
theorem wc_X5_about : Cond.code yX5_about cX5_about 3 (some .int) ∈ lw_ok := lw_in 732 (by decide +kernel) (by decide +kernel)
theorem wl_X5_113 : Cond.methodLink RX5 113 yX5_cornersAt ∈ lw_ok := lw_in 733 (by decide +kernel) (by decide +kernel)
theorem wm_X5_cornersAt : Cond.instanceMethod yX5_cornersAt ∈ lw_ok := lw_in 735 (by decide +kernel) (by decide +kernel)
theorem wc_X5_cornersAt : Cond.code yX5_cornersAt cX5_cornersAt 4 (some .int) ∈ lw_ok := lw_in 736 (by decide +kernel) (by decide +kernel)
theorem wl_X5_117 : Cond.methodLink RX5 117 yX5_sidesAt ∈ lw_ok := lw_in 737 (by decide +kernel) (by decide +kernel)
theorem wm_X5_sidesAt : Cond.instanceMethod yX5_sidesAt ∈ lw_ok := lw_in 739 (by decide +kernel) (by decide +kernel)
theorem wc_X5_sidesAt : Cond.code yX5_sidesAt cX5_sidesAt 6 (some .int) ∈ lw_ok := lw_in 740 (by decide +kernel) (by decide +kernel)
theorem wl_X5_120 : Cond.methodLink RX5 120 yX5_pieces ∈ lw_ok := lw_in 741 (by decide +kernel) (by decide +kernel)
theorem wm_X5_pieces : Cond.instanceMethod yX5_pieces ∈ lw_ok := lw_in 743 (by decide +kernel) (by decide +kernel)
theorem wc_X5_pieces : Cond.code yX5_pieces cX5_pieces 7 (some .int) ∈ lw_ok := lw_in 744 (by decide +kernel) (by decide +kernel)
theorem wl_X5_103 : Cond.methodLink RX5 103 yX5_hasPost ∈ lw_ok := lw_in 745 (by decide +kernel) (by decide +kernel)
theorem wm_X5_hasPost : Cond.instanceMethod yX5_hasPost ∈ lw_ok := lw_in 747 (by decide +kernel) (by decide +kernel)
theorem wc_X5_hasPost : Cond.code yX5_hasPost cX5_hasPost 3 (some .boolean) ∈ lw_ok := lw_in 748 (by decide +kernel) (by decide +kernel)
theorem wl_X5_106 : Cond.methodLink RX5 106 yX5_hang ∈ lw_ok := lw_in 749 (by decide +kernel) (by decide +kernel)
theorem wm_X5_hang : Cond.instanceMethod yX5_hang ∈ lw_ok := lw_in 751 (by decide +kernel) (by decide +kernel)
theorem wc_X5_hang : Cond.code yX5_hang cX5_hang 8 (some .boolean) ∈ lw_ok := lw_in 752 (by decide +kernel) (by decide +kernel)
theorem wl_X5_123 : Cond.methodLink RX5 123 yX5_sumOfRow ∈ lw_ok := lw_in 753 (by decide +kernel) (by decide +kernel)
theorem wm_X5_sumOfRow : Cond.instanceMethod yX5_sumOfRow ∈ lw_ok := lw_in 755 (by decide +kernel) (by decide +kernel)
theorem wc_X5_sumOfRow : Cond.code yX5_sumOfRow cX5_sumOfRow 4 (some .int) ∈ lw_ok := lw_in 756 (by decide +kernel) (by decide +kernel)
theorem wl_X5_109 : Cond.methodLink RX5 109 yX5_hasRow ∈ lw_ok := lw_in 757 (by decide +kernel) (by decide +kernel)
theorem wm_X5_hasRow : Cond.instanceMethod yX5_hasRow ∈ lw_ok := lw_in 759 (by decide +kernel) (by decide +kernel)
theorem wc_X5_hasRow : Cond.code yX5_hasRow cX5_hasRow 2 (some .boolean) ∈ lw_ok := lw_in 760 (by decide +kernel) (by decide +kernel)
theorem wl_X5_156 : Cond.methodLink RX5 156 yX5_canWith ∈ lw_ok := lw_in 761 (by decide +kernel) (by decide +kernel)
theorem wm_X5_canWith : Cond.instanceMethod yX5_canWith ∈ lw_ok := lw_in 763 (by decide +kernel) (by decide +kernel)
theorem wc_X5_canWith : Cond.code yX5_canWith cX5_canWith 4 (some .boolean) ∈ lw_ok := lw_in 764 (by decide +kernel) (by decide +kernel)
theorem wl_X5_152 : Cond.methodLink RX5 152 yX5_fill ∈ lw_ok := lw_in 765 (by decide +kernel) (by decide +kernel)
theorem wm_X5_fill : Cond.instanceMethod yX5_fill ∈ lw_ok := lw_in 767 (by decide +kernel) (by decide +kernel)
theorem wc_X5_fill : Cond.code yX5_fill cX5_fill 6 none ∈ lw_ok := lw_in 768 (by decide +kernel) (by decide +kernel)
theorem wl_X5_135 : Cond.methodLink RX5 135 yX5_clearWays ∈ lw_ok := lw_in 769 (by decide +kernel) (by decide +kernel)
theorem wm_X5_clearWays : Cond.instanceMethod yX5_clearWays ∈ lw_ok := lw_in 771 (by decide +kernel) (by decide +kernel)
theorem wc_X5_clearWays : Cond.code yX5_clearWays cX5_clearWays 2 none ∈ lw_ok := lw_in 772 (by decide +kernel) (by decide +kernel)
theorem wl_X5_132 : Cond.methodLink RX5 132 yX5_come ∈ lw_ok := lw_in 773 (by decide +kernel) (by decide +kernel)
theorem wm_X5_come : Cond.instanceMethod yX5_come ∈ lw_ok := lw_in 775 (by decide +kernel) (by decide +kernel)
theorem wc_X5_come : Cond.code yX5_come cX5_come 4 none ∈ lw_ok := lw_in 776 (by decide +kernel) (by decide +kernel)
theorem wl_X5_138 : Cond.methodLink RX5 138 yX5_spread ∈ lw_ok := lw_in 777 (by decide +kernel) (by decide +kernel)
theorem wm_X5_spread : Cond.instanceMethod yX5_spread ∈ lw_ok := lw_in 779 (by decide +kernel) (by decide +kernel)
theorem wc_X5_spread : Cond.code yX5_spread cX5_spread 6 none ∈ lw_ok := lw_in 780 (by decide +kernel) (by decide +kernel)
theorem wl_X5_142 : Cond.methodLink RX5 142 yX5_wanting ∈ lw_ok := lw_in 781 (by decide +kernel) (by decide +kernel)
theorem wm_X5_wanting : Cond.instanceMethod yX5_wanting ∈ lw_ok := lw_in 783 (by decide +kernel) (by decide +kernel)
theorem wc_X5_wanting : Cond.code yX5_wanting cX5_wanting 4 (some .int) ∈ lw_ok := lw_in 784 (by decide +kernel) (by decide +kernel)
theorem wl_X5_146 : Cond.methodLink RX5 146 yX5_wayRoom ∈ lw_ok := lw_in 785 (by decide +kernel) (by decide +kernel)
theorem wm_X5_wayRoom : Cond.instanceMethod yX5_wayRoom ∈ lw_ok := lw_in 787 (by decide +kernel) (by decide +kernel)
theorem wc_X5_wayRoom : Cond.code yX5_wayRoom cX5_wayRoom 5 (some .int) ∈ lw_ok := lw_in 788 (by decide +kernel) (by decide +kernel)
theorem wl_X5_149 : Cond.methodLink RX5 149 yX5_goWay ∈ lw_ok := lw_in 789 (by decide +kernel) (by decide +kernel)
theorem wm_X5_goWay : Cond.instanceMethod yX5_goWay ∈ lw_ok := lw_in 791 (by decide +kernel) (by decide +kernel)
theorem wc_X5_goWay : Cond.code yX5_goWay cX5_goWay 4 (some .int) ∈ lw_ok := lw_in 792 (by decide +kernel) (by decide +kernel)
theorem wl_X5_162 : Cond.methodLink RX5 162 yX5_lower ∈ lw_ok := lw_in 793 (by decide +kernel) (by decide +kernel)
theorem wm_X5_lower : Cond.instanceMethod yX5_lower ∈ lw_ok := lw_in 795 (by decide +kernel) (by decide +kernel)
theorem wc_X5_lower : Cond.code yX5_lower cX5_lower 6 none ∈ lw_ok := lw_in 796 (by decide +kernel) (by decide +kernel)
theorem wl_L_47 : Cond.methodLink RL 47 yX5_told ∈ lw_ok := lw_in 797 (by decide +kernel) (by decide +kernel)
theorem wm_X5_told : Cond.instanceMethod yX5_told ∈ lw_ok := lw_in 798 (by decide +kernel) (by decide +kernel)
theorem ws_X5_told : Cond.selects RX5 yX5_told yX5_told ∈ lw_ok := lw_in 799 (by decide +kernel) (by decide +kernel)
theorem wc_X5_told : Cond.code yX5_told cX5_told 5 (some .int) ∈ lw_ok := lw_in 800 (by decide +kernel) (by decide +kernel)
theorem wl_X5_126 : Cond.methodLink RX5 126 yX5_sides ∈ lw_ok := lw_in 801 (by decide +kernel) (by decide +kernel)
theorem wm_X5_sides : Cond.instanceMethod yX5_sides ∈ lw_ok := lw_in 803 (by decide +kernel) (by decide +kernel)
theorem wc_X5_sides : Cond.code yX5_sides cX5_sides 5 (some .int) ∈ lw_ok := lw_in 804 (by decide +kernel) (by decide +kernel)
theorem wl_L_51 : Cond.methodLink RL 51 yX5_straight ∈ lw_ok := lw_in 805 (by decide +kernel) (by decide +kernel)
theorem wm_X5_straight : Cond.instanceMethod yX5_straight ∈ lw_ok := lw_in 806 (by decide +kernel) (by decide +kernel)
theorem ws_X5_straight : Cond.selects RX5 yX5_straight yX5_straight ∈ lw_ok := lw_in 807 (by decide +kernel) (by decide +kernel)
theorem wc_X5_straight : Cond.code yX5_straight cX5_straight 3 (some .int) ∈ lw_ok := lw_in 808 (by decide +kernel) (by decide +kernel)
theorem wl_L_55 : Cond.methodLink RL 55 yX5_least ∈ lw_ok := lw_in 809 (by decide +kernel) (by decide +kernel)
theorem wm_X5_least : Cond.instanceMethod yX5_least ∈ lw_ok := lw_in 810 (by decide +kernel) (by decide +kernel)
theorem ws_X5_least : Cond.selects RX5 yX5_least yX5_least ∈ lw_ok := lw_in 811 (by decide +kernel) (by decide +kernel)
theorem wc_X5_least : Cond.code yX5_least cX5_least 3 (some .int) ∈ lw_ok := lw_in 812 (by decide +kernel) (by decide +kernel)
theorem wl_L_64 : Cond.methodLink RL 64 yX5_can ∈ lw_ok := lw_in 813 (by decide +kernel) (by decide +kernel)
theorem wm_X5_can : Cond.instanceMethod yX5_can ∈ lw_ok := lw_in 814 (by decide +kernel) (by decide +kernel)
theorem ws_X5_can : Cond.selects RX5 yX5_can yX5_can ∈ lw_ok := lw_in 815 (by decide +kernel) (by decide +kernel)
theorem wc_X5_can : Cond.code yX5_can cX5_can 1 (some .int) ∈ lw_ok := lw_in 816 (by decide +kernel) (by decide +kernel)
theorem wl_L_68 : Cond.methodLink RL 68 yX5_angle ∈ lw_ok := lw_in 817 (by decide +kernel) (by decide +kernel)
theorem wm_X5_angle : Cond.instanceMethod yX5_angle ∈ lw_ok := lw_in 818 (by decide +kernel) (by decide +kernel)
theorem ws_X5_angle : Cond.selects RX5 yX5_angle yX5_angle ∈ lw_ok := lw_in 819 (by decide +kernel) (by decide +kernel)
theorem wc_X5_angle : Cond.code yX5_angle cX5_angle 2 (some .int) ∈ lw_ok := lw_in 820 (by decide +kernel) (by decide +kernel)
theorem wl_L_72 : Cond.methodLink RL 72 yX5_best ∈ lw_ok := lw_in 821 (by decide +kernel) (by decide +kernel)
theorem wm_X5_best : Cond.instanceMethod yX5_best ∈ lw_ok := lw_in 822 (by decide +kernel) (by decide +kernel)
theorem ws_X5_best : Cond.selects RX5 yX5_best yX5_best ∈ lw_ok := lw_in 823 (by decide +kernel) (by decide +kernel)
theorem wc_X5_best : Cond.code yX5_best cX5_best 2 (some .int) ∈ lw_ok := lw_in 824 (by decide +kernel) (by decide +kernel)
theorem wl_L_76 : Cond.methodLink RL 76 yX5_bar ∈ lw_ok := lw_in 825 (by decide +kernel) (by decide +kernel)
theorem wm_X5_bar : Cond.instanceMethod yX5_bar ∈ lw_ok := lw_in 826 (by decide +kernel) (by decide +kernel)
theorem ws_X5_bar : Cond.selects RX5 yX5_bar yX5_bar ∈ lw_ok := lw_in 827 (by decide +kernel) (by decide +kernel)
theorem wc_X5_bar : Cond.code yX5_bar cX5_bar 6 (some .int) ∈ lw_ok := lw_in 828 (by decide +kernel) (by decide +kernel)
theorem wl_X5_166 : Cond.methodLink RX5 166 yX5_bits ∈ lw_ok := lw_in 829 (by decide +kernel) (by decide +kernel)
theorem wt_X5_bits : Cond.static yX5_bits ∈ lw_ok := lw_in 830 (by decide +kernel) (by decide +kernel)
theorem wc_X5_bits : Cond.code yX5_bits cX5_bits 3 (some .int) ∈ lw_ok := lw_in 831 (by decide +kernel) (by decide +kernel)
theorem wl_X5_169 : Cond.methodLink RX5 169 yX5_thirdsBar ∈ lw_ok := lw_in 832 (by decide +kernel) (by decide +kernel)
theorem wm_X5_thirdsBar : Cond.instanceMethod yX5_thirdsBar ∈ lw_ok := lw_in 834 (by decide +kernel) (by decide +kernel)
theorem wc_X5_thirdsBar : Cond.code yX5_thirdsBar cX5_thirdsBar 5 (some .boolean) ∈ lw_ok := lw_in 835 (by decide +kernel) (by decide +kernel)
theorem wl_X5_172 : Cond.methodLink RX5 172 yX5_postsBar ∈ lw_ok := lw_in 836 (by decide +kernel) (by decide +kernel)
theorem wm_X5_postsBar : Cond.instanceMethod yX5_postsBar ∈ lw_ok := lw_in 838 (by decide +kernel) (by decide +kernel)
theorem wc_X5_postsBar : Cond.code yX5_postsBar cX5_postsBar 9 (some .boolean) ∈ lw_ok := lw_in 839 (by decide +kernel) (by decide +kernel)
theorem wl_L_80 : Cond.methodLink RL 80 yX5_opposite ∈ lw_ok := lw_in 840 (by decide +kernel) (by decide +kernel)
theorem wm_X5_opposite : Cond.instanceMethod yX5_opposite ∈ lw_ok := lw_in 841 (by decide +kernel) (by decide +kernel)
theorem ws_X5_opposite : Cond.selects RX5 yX5_opposite yX5_opposite ∈ lw_ok := lw_in 842 (by decide +kernel) (by decide +kernel)
theorem wc_X5_opposite : Cond.code yX5_opposite cX5_opposite 3 (some .int) ∈ lw_ok := lw_in 843 (by decide +kernel) (by decide +kernel)
theorem wl_X5_175 : Cond.methodLink RX5 175 yX5_oppositeOf ∈ lw_ok := lw_in 844 (by decide +kernel) (by decide +kernel)
theorem wm_X5_oppositeOf : Cond.instanceMethod yX5_oppositeOf ∈ lw_ok := lw_in 846 (by decide +kernel) (by decide +kernel)
theorem wc_X5_oppositeOf : Cond.code yX5_oppositeOf cX5_oppositeOf 6 (some .int) ∈ lw_ok := lw_in 847 (by decide +kernel) (by decide +kernel)
theorem wl_L_84 : Cond.methodLink RL 84 yX5_fit ∈ lw_ok := lw_in 848 (by decide +kernel) (by decide +kernel)
theorem wm_X5_fit : Cond.instanceMethod yX5_fit ∈ lw_ok := lw_in 849 (by decide +kernel) (by decide +kernel)
theorem ws_X5_fit : Cond.selects RX5 yX5_fit yX5_fit ∈ lw_ok := lw_in 850 (by decide +kernel) (by decide +kernel)
theorem wc_X5_fit : Cond.code yX5_fit cX5_fit 4 (some .int) ∈ lw_ok := lw_in 851 (by decide +kernel) (by decide +kernel)
theorem xl_X3_28 : xLinkS RX3 28 yJ7_fill_53178 cJ7_fill_53178 4 none 2 := ⟨wl_X3_28, wt_J7_fill_53178, wi_J7, wc_J7_fill_53178, ⟨by decide +kernel, by decide +kernel, by decide +kernel⟩⟩
theorem xl_L_13 : xLinkV RL 13 yX4_posts cX4_posts 3 (some .int) 1 := ⟨wl_L_13, wm_X4_posts, ws_X4_posts, wi_X4, wc_X4_posts, ⟨by decide +kernel, by decide +kernel, by decide +kernel⟩⟩
theorem xl_X4_46 : xLinkV RX4 46 yX3_postCount cX3_postCount 1 (some .int) 0 := ⟨wl_X4_46, wm_X3_postCount, ws_X3_postCount, wi_X3, wc_X3_postCount, ⟨by decide +kernel, by decide +kernel, by decide +kernel⟩⟩
theorem xl_X4_50 : xLinkV RX4 50 yX3_beginAnew cX3_beginAnew 2 none 1 := ⟨wl_X4_50, wm_X3_beginAnew, ws_X3_beginAnew, wi_X3, wc_X3_beginAnew, ⟨by decide +kernel, by decide +kernel, by decide +kernel⟩⟩
theorem xl_X3_34 : xLinkV RX3 34 yX3_drawArrows cX3_drawArrows 5 none 0 := ⟨wl_X3_34, wm_X3_drawArrows, ws_X3_drawArrows, wi_X3, wc_X3_drawArrows, ⟨by decide +kernel, by decide +kernel, by decide +kernel⟩⟩
theorem xl_X4_54 : xLinkV RX4 54 yX0_forgetAll cX0_forgetAll 1 none 0 := ⟨wl_X4_54, wm_X0_forgetAll, ws_X0_forgetAll, wi_X0, wc_X0_forgetAll, ⟨by decide +kernel, by decide +kernel, by decide +kernel⟩⟩
theorem xl_X4_57 : xLinkV RX4 57 yX2_forgetRow cX2_forgetRow 1 none 0 := ⟨wl_X4_57, wm_X2_forgetRow, ws_X2_forgetRow, wi_X2, wc_X2_forgetRow, ⟨by decide +kernel, by decide +kernel, by decide +kernel⟩⟩
theorem xl_L_18 : xLinkV RL 18 yX4_third cX4_third 5 (some .int) 3 := ⟨wl_L_18, wm_X4_third, ws_X4_third, wi_X4, wc_X4_third, ⟨by decide +kernel, by decide +kernel, by decide +kernel⟩⟩
theorem xl_X4_60 : xLinkV RX4 60 yX3_areUnlike cX3_areUnlike 3 (some .boolean) 2 := ⟨wl_X4_60, wm_X3_areUnlike, ws_X3_areUnlike, wi_X3, wc_X3_areUnlike, ⟨by decide +kernel, by decide +kernel, by decide +kernel⟩⟩
theorem xl_X3_51 : xLinkV RX3 51 yX3_hasPost cX3_hasPost 2 (some .boolean) 1 := ⟨wl_X3_51, wm_X3_hasPost, ws_X3_hasPost, wi_X3, wc_X3_hasPost, ⟨by decide +kernel, by decide +kernel, by decide +kernel⟩⟩
theorem xl_X4_64 : xLinkV RX4 64 yX3_thirdCount cX3_thirdCount 1 (some .int) 0 := ⟨wl_X4_64, wm_X3_thirdCount, ws_X3_thirdCount, wi_X3, wc_X3_thirdCount, ⟨by decide +kernel, by decide +kernel, by decide +kernel⟩⟩
theorem xl_X4_67 : xLinkV RX4 67 yX3_hasArrow cX3_hasArrow 3 (some .boolean) 2 := ⟨wl_X4_67, wm_X3_hasArrow, ws_X3_hasArrow, wi_X3, wc_X3_hasArrow, ⟨by decide +kernel, by decide +kernel, by decide +kernel⟩⟩
theorem xl_X3_55 : xLinkV RX3 55 yX3_thirdWith cX3_thirdWith 3 (some .int) 2 := ⟨wl_X3_55, wm_X3_thirdWith, ws_X3_thirdWith, wi_X3, wc_X3_thirdWith, ⟨by decide +kernel, by decide +kernel, by decide +kernel⟩⟩
theorem xl_X4_70 : xLinkV RX4 70 yX0_begin cX0_begin 2 none 0 := ⟨wl_X4_70, wm_X0_begin, ws_X0_begin, wi_X0, wc_X0_begin, ⟨by decide +kernel, by decide +kernel, by decide +kernel⟩⟩
theorem xl_X0_28 : xLinkS RX0 28 yX0_dropOldest cX0_dropOldest 1 none 1 := ⟨wl_X0_28, wt_X0_dropOldest, wi_X0, wc_X0_dropOldest, ⟨by decide +kernel, by decide +kernel, by decide +kernel⟩⟩
theorem xl_X0_32 : xLinkV RX0 32 yX0_note cX0_note 6 none 4 := ⟨wl_X0_32, wm_X0_note, ws_X0_note, wi_X0, wc_X0_note, ⟨by decide +kernel, by decide +kernel, by decide +kernel⟩⟩
theorem xl_X4_73 : xLinkS RX4 73 yX3_pack cX3_pack 3 (some .int) 3 := ⟨wl_X4_73, wt_X3_pack, wi_X3, wc_X3_pack, ⟨by decide +kernel, by decide +kernel, by decide +kernel⟩⟩
theorem xl_X4_77 : xLinkV RX4 77 yX0_note cX0_note 6 none 4 := ⟨wl_X4_77, wm_X0_note, ws_X0_note, wi_X0, wc_X0_note, ⟨by decide +kernel, by decide +kernel, by decide +kernel⟩⟩
theorem xl_X4_81 : xLinkV RX4 81 yX4_goForward cX4_goForward 1 none 0 := ⟨wl_X4_81, wm_X4_goForward, ws_X4_goForward, wi_X4, wc_X4_goForward, ⟨by decide +kernel, by decide +kernel, by decide +kernel⟩⟩
theorem xl_X4_173 : xLinkV RX4 173 yX0_forward cX0_forward 2 none 1 := ⟨wl_X4_173, wm_X0_forward, ws_X0_forward, wi_X0, wc_X0_forward, ⟨by decide +kernel, by decide +kernel, by decide +kernel⟩⟩
theorem xl_X0_36 : xLinkV RX0 36 yX0_putAll cX0_putAll 5 none 2 := ⟨wl_X0_36, wm_X0_putAll, ws_X0_putAll, wi_X0, wc_X0_putAll, ⟨by decide +kernel, by decide +kernel, by decide +kernel⟩⟩
theorem xl_X0_40 : xLinkV RX0 40 yX3_put cX3_put 3 none 2 := ⟨wl_X0_40, wm_X3_put, ws_X3_put, wi_X3, wc_X3_put, ⟨by decide +kernel, by decide +kernel, by decide +kernel⟩⟩
theorem xl_X0_46 : xLinkV RX0 46 yX3_drawArrows cX3_drawArrows 5 none 0 := ⟨wl_X0_46, wm_X3_drawArrows, ws_X3_drawArrows, wi_X3, wc_X3_drawArrows, ⟨by decide +kernel, by decide +kernel, by decide +kernel⟩⟩
theorem xl_L_23 : xLinkV RL 23 yX4_at cX4_at 2 (some .int) 1 := ⟨wl_L_23, wm_X4_at, ws_X4_at, wi_X4, wc_X4_at, ⟨by decide +kernel, by decide +kernel, by decide +kernel⟩⟩
theorem xl_X4_84 : xLinkV RX4 84 yX3_hasCorner cX3_hasCorner 2 (some .boolean) 1 := ⟨wl_X4_84, wm_X3_hasCorner, ws_X3_hasCorner, wi_X3, wc_X3_hasCorner, ⟨by decide +kernel, by decide +kernel, by decide +kernel⟩⟩
theorem xl_X3_47 : xLinkV RX3 47 yX3_cornerCount cX3_cornerCount 1 (some .int) 0 := ⟨wl_X3_47, wm_X3_cornerCount, ws_X3_cornerCount, wi_X3, wc_X3_cornerCount, ⟨by decide +kernel, by decide +kernel, by decide +kernel⟩⟩
theorem xl_X4_88 : xLinkV RX4 88 yX3_postOf cX3_postOf 2 (some .int) 1 := ⟨wl_X4_88, wm_X3_postOf, ws_X3_postOf, wi_X3, wc_X3_postOf, ⟨by decide +kernel, by decide +kernel, by decide +kernel⟩⟩
theorem xl_L_27 : xLinkV RL 27 yX4_side cX4_side 3 (some .int) 2 := ⟨wl_L_27, wm_X4_side, ws_X4_side, wi_X4, wc_X4_side, ⟨by decide +kernel, by decide +kernel, by decide +kernel⟩⟩
theorem xl_X4_92 : xLinkV RX4 92 yX3_thirdsAtSide cX3_thirdsAtSide 3 (some .int) 2 := ⟨wl_X4_92, wm_X3_thirdsAtSide, ws_X3_thirdsAtSide, wi_X3, wc_X3_thirdsAtSide, ⟨by decide +kernel, by decide +kernel, by decide +kernel⟩⟩
theorem xl_X3_58 : xLinkV RX3 58 yX3_hasArrow cX3_hasArrow 3 (some .boolean) 2 := ⟨wl_X3_58, wm_X3_hasArrow, ws_X3_hasArrow, wi_X3, wc_X3_hasArrow, ⟨by decide +kernel, by decide +kernel, by decide +kernel⟩⟩
theorem xl_L_32 : xLinkV RL 32 yX4_arrow cX4_arrow 3 (some .int) 2 := ⟨wl_L_32, wm_X4_arrow, ws_X4_arrow, wi_X4, wc_X4_arrow, ⟨by decide +kernel, by decide +kernel, by decide +kernel⟩⟩
theorem xl_X4_96 : xLinkV RX4 96 yX3_thirdWith cX3_thirdWith 3 (some .int) 2 := ⟨wl_X4_96, wm_X3_thirdWith, ws_X3_thirdWith, wi_X3, wc_X3_thirdWith, ⟨by decide +kernel, by decide +kernel, by decide +kernel⟩⟩
theorem xl_L_36 : xLinkV RL 36 yX4_turn cX4_turn 7 (some .int) 2 := ⟨wl_L_36, wm_X4_turn, ws_X4_turn, wi_X4, wc_X4_turn, ⟨by decide +kernel, by decide +kernel, by decide +kernel⟩⟩
theorem xl_X4_99 : xLinkV RX4 99 yX3_isSide cX3_isSide 3 (some .boolean) 2 := ⟨wl_X4_99, wm_X3_isSide, ws_X3_isSide, wi_X3, wc_X3_isSide, ⟨by decide +kernel, by decide +kernel, by decide +kernel⟩⟩
theorem xl_X3_62 : xLinkV RX3 62 yX3_areUnlike cX3_areUnlike 3 (some .boolean) 2 := ⟨wl_X3_62, wm_X3_areUnlike, ws_X3_areUnlike, wi_X3, wc_X3_areUnlike, ⟨by decide +kernel, by decide +kernel, by decide +kernel⟩⟩
theorem xl_X3_65 : xLinkV RX3 65 yX3_thirdsAtSide cX3_thirdsAtSide 3 (some .int) 2 := ⟨wl_X3_65, wm_X3_thirdsAtSide, ws_X3_thirdsAtSide, wi_X3, wc_X3_thirdsAtSide, ⟨by decide +kernel, by decide +kernel, by decide +kernel⟩⟩
theorem xl_X4_102 : xLinkV RX4 102 yX3_cornerOpposite cX3_cornerOpposite 6 (some .int) 3 := ⟨wl_X4_102, wm_X3_cornerOpposite, ws_X3_cornerOpposite, wi_X3, wc_X3_cornerOpposite, ⟨by decide +kernel, by decide +kernel, by decide +kernel⟩⟩
theorem xl_X4_105 : xLinkV RX4 105 yX3_packed cX3_packed 2 (some .int) 1 := ⟨wl_X4_105, wm_X3_packed, ws_X3_packed, wi_X3, wc_X3_packed, ⟨by decide +kernel, by decide +kernel, by decide +kernel⟩⟩
theorem xl_X3_37 : xLinkS RX3 37 yX3_pack cX3_pack 3 (some .int) 3 := ⟨wl_X3_37, wt_X3_pack, wi_X3, wc_X3_pack, ⟨by decide +kernel, by decide +kernel, by decide +kernel⟩⟩
theorem xl_L_40 : xLinkV RL 40 yX4_about cX4_about 3 (some .int) 2 := ⟨wl_L_40, wm_X4_about, ws_X4_about, wi_X4, wc_X4_about, ⟨by decide +kernel, by decide +kernel, by decide +kernel⟩⟩
theorem xl_X4_108 : xLinkV RX4 108 yX3_hasPost cX3_hasPost 2 (some .boolean) 1 := ⟨wl_X4_108, wm_X3_hasPost, ws_X3_hasPost, wi_X3, wc_X3_hasPost, ⟨by decide +kernel, by decide +kernel, by decide +kernel⟩⟩
theorem xl_X4_111 : xLinkV RX4 111 yX3_cornersAt cX3_cornersAt 4 (some .int) 1 := ⟨wl_X4_111, wm_X3_cornersAt, ws_X3_cornersAt, wi_X3, wc_X3_cornersAt, ⟨by decide +kernel, by decide +kernel, by decide +kernel⟩⟩
theorem xl_X4_114 : xLinkV RX4 114 yX3_sidesAt cX3_sidesAt 5 (some .int) 2 := ⟨wl_X4_114, wm_X3_sidesAt, ws_X3_sidesAt, wi_X3, wc_X3_sidesAt, ⟨by decide +kernel, by decide +kernel, by decide +kernel⟩⟩
theorem xl_X4_117 : xLinkV RX4 117 yX3_isFreeOfRim cX3_isFreeOfRim 2 (some .boolean) 1 := ⟨wl_X4_117, wm_X3_isFreeOfRim, ws_X3_isFreeOfRim, wi_X3, wc_X3_isFreeOfRim, ⟨by decide +kernel, by decide +kernel, by decide +kernel⟩⟩
theorem xl_X3_71 : xLinkV RX3 71 yX3_cornersAt cX3_cornersAt 4 (some .int) 1 := ⟨wl_X3_71, wm_X3_cornersAt, ws_X3_cornersAt, wi_X3, wc_X3_cornersAt, ⟨by decide +kernel, by decide +kernel, by decide +kernel⟩⟩
theorem xl_X3_68 : xLinkV RX3 68 yX3_sidesAt cX3_sidesAt 5 (some .int) 2 := ⟨wl_X3_68, wm_X3_sidesAt, ws_X3_sidesAt, wi_X3, wc_X3_sidesAt, ⟨by decide +kernel, by decide +kernel, by decide +kernel⟩⟩
theorem xl_X4_120 : xLinkV RX4 120 yX3_isRound cX3_isRound 3 (some .boolean) 1 := ⟨wl_X4_120, wm_X3_isRound, ws_X3_isRound, wi_X3, wc_X3_isRound, ⟨by decide +kernel, by decide +kernel, by decide +kernel⟩⟩
theorem xl_X3_75 : xLinkV RX3 75 yX3_thirdsAt cX3_thirdsAt 4 (some .int) 1 := ⟨wl_X3_75, wm_X3_thirdsAt, ws_X3_thirdsAt, wi_X3, wc_X3_thirdsAt, ⟨by decide +kernel, by decide +kernel, by decide +kernel⟩⟩
theorem xl_X3_87 : xLinkV RX3 87 yX3_bitOf cX3_bitOf 3 (some .int) 2 := ⟨wl_X3_87, wm_X3_bitOf, ws_X3_bitOf, wi_X3, wc_X3_bitOf, ⟨by decide +kernel, by decide +kernel, by decide +kernel⟩⟩
theorem xl_X3_78 : xLinkV RX3 78 yX3_hangingWith cX3_hangingWith 7 (some .int) 2 := ⟨wl_X3_78, wm_X3_hangingWith, ws_X3_hangingWith, wi_X3, wc_X3_hangingWith, ⟨by decide +kernel, by decide +kernel, by decide +kernel⟩⟩
theorem xl_X3_90 : xLinkV RX3 90 yX3_widened cX3_widened 6 (some .int) 2 := ⟨wl_X3_90, wm_X3_widened, ws_X3_widened, wi_X3, wc_X3_widened, ⟨by decide +kernel, by decide +kernel, by decide +kernel⟩⟩
theorem xl_X4_123 : xLinkV RX4 123 yX4_sumOrNone cX4_sumOrNone 3 (some .int) 1 := ⟨wl_X4_123, wm_X4_sumOrNone, ws_X4_sumOrNone, wi_X4, wc_X4_sumOrNone, ⟨by decide +kernel, by decide +kernel, by decide +kernel⟩⟩
theorem xl_X4_144 : xLinkV RX4 144 yX3_sumOf cX3_sumOf 2 (some .int) 1 := ⟨wl_X4_144, wm_X3_sumOf, ws_X3_sumOf, wi_X3, wc_X3_sumOf, ⟨by decide +kernel, by decide +kernel, by decide +kernel⟩⟩
theorem xl_X4_126 : xLinkV RX4 126 yX2_findRow cX2_findRow 4 (some .boolean) 2 := ⟨wl_X4_126, wm_X2_findRow, ws_X2_findRow, wi_X2, wc_X2_findRow, ⟨by decide +kernel, by decide +kernel, by decide +kernel⟩⟩
theorem xl_X2_45 : xLinkV RX2 45 yX2_findAny cX2_findAny 5 (some .boolean) 2 := ⟨wl_X2_45, wm_X2_findAny, ws_X2_findAny, wi_X2, wc_X2_findAny, ⟨by decide +kernel, by decide +kernel, by decide +kernel⟩⟩
theorem xl_X2_56 : xLinkV RX2 56 yX2_begin cX2_begin 5 none 2 := ⟨wl_X2_56, wm_X2_begin, ws_X2_begin, wi_X2, wc_X2_begin, ⟨by decide +kernel, by decide +kernel, by decide +kernel⟩⟩
theorem xl_X2_66 : xLinkV RX2 66 yX3_cornerCount cX3_cornerCount 1 (some .int) 0 := ⟨wl_X2_66, wm_X3_cornerCount, ws_X3_cornerCount, wi_X3, wc_X3_cornerCount, ⟨by decide +kernel, by decide +kernel, by decide +kernel⟩⟩
theorem xl_X2_39 : xLinkV RX2 39 yX3_postOf cX3_postOf 2 (some .int) 1 := ⟨wl_X2_39, wm_X3_postOf, ws_X3_postOf, wi_X3, wc_X3_postOf, ⟨by decide +kernel, by decide +kernel, by decide +kernel⟩⟩
theorem xl_X2_76 : xLinkV RX2 76 yX3_isTold cX3_isTold 2 (some .boolean) 1 := ⟨wl_X2_76, wm_X3_isTold, ws_X3_isTold, wi_X3, wc_X3_isTold, ⟨by decide +kernel, by decide +kernel, by decide +kernel⟩⟩
theorem xl_X2_60 : xLinkV RX2 60 yX2_weigh cX2_weigh 3 none 1 := ⟨wl_X2_60, wm_X2_weigh, ws_X2_weigh, wi_X2, wc_X2_weigh, ⟨by decide +kernel, by decide +kernel, by decide +kernel⟩⟩
theorem xl_X2_80 : xLinkS RX2 80 yJ7_fill_53178 cJ7_fill_53178 4 none 2 := ⟨wl_X2_80, wt_J7_fill_53178, wi_J7, wc_J7_fill_53178, ⟨by decide +kernel, by decide +kernel, by decide +kernel⟩⟩
theorem xl_X2_86 : xLinkV RX2 86 yX3_postCount cX3_postCount 1 (some .int) 0 := ⟨wl_X2_86, wm_X3_postCount, ws_X3_postCount, wi_X3, wc_X3_postCount, ⟨by decide +kernel, by decide +kernel, by decide +kernel⟩⟩
theorem xl_X2_89 : xLinkV RX2 89 yX3_sumOf cX3_sumOf 2 (some .int) 1 := ⟨wl_X2_89, wm_X3_sumOf, ws_X3_sumOf, wi_X3, wc_X3_sumOf, ⟨by decide +kernel, by decide +kernel, by decide +kernel⟩⟩
theorem xl_X2_92 : xLinkV RX2 92 yX3_allSums cX3_allSums 3 (some .int) 0 := ⟨wl_X2_92, wm_X3_allSums, ws_X3_allSums, wi_X3, wc_X3_allSums, ⟨by decide +kernel, by decide +kernel, by decide +kernel⟩⟩
theorem xl_X3_84 : xLinkV RX3 84 yX3_isTold cX3_isTold 2 (some .boolean) 1 := ⟨wl_X3_84, wm_X3_isTold, ws_X3_isTold, wi_X3, wc_X3_isTold, ⟨by decide +kernel, by decide +kernel, by decide +kernel⟩⟩
theorem xl_X2_95 : xLinkV RX2 95 yX3_thirdCount cX3_thirdCount 1 (some .int) 0 := ⟨wl_X2_95, wm_X3_thirdCount, ws_X3_thirdCount, wi_X3, wc_X3_thirdCount, ⟨by decide +kernel, by decide +kernel, by decide +kernel⟩⟩
theorem xl_X2_63 : xLinkV RX2 63 yX2_level cX2_level 5 none 2 := ⟨wl_X2_63, wm_X2_level, ws_X2_level, wi_X2, wc_X2_level, ⟨by decide +kernel, by decide +kernel, by decide +kernel⟩⟩
theorem xl_X2_105 : xLinkV RX2 105 yX2_push cX2_push 7 (some .int) 3 := ⟨wl_X2_105, wm_X2_push, ws_X2_push, wi_X2, wc_X2_push, ⟨by decide +kernel, by decide +kernel, by decide +kernel⟩⟩
theorem xl_X2_109 : xLinkV RX2 109 yX2_reaches cX2_reaches 6 (some .boolean) 2 := ⟨wl_X2_109, wm_X2_reaches, ws_X2_reaches, wi_X2, wc_X2_reaches, ⟨by decide +kernel, by decide +kernel, by decide +kernel⟩⟩
theorem xl_X2_115 : xLinkV RX2 115 yX2_seeFromThird cX2_seeFromThird 7 (some .int) 2 := ⟨wl_X2_115, wm_X2_seeFromThird, ws_X2_seeFromThird, wi_X2, wc_X2_seeFromThird, ⟨by decide +kernel, by decide +kernel, by decide +kernel⟩⟩
theorem xl_X2_118 : xLinkV RX2 118 yX2_seeFromPost cX2_seeFromPost 6 (some .int) 2 := ⟨wl_X2_118, wm_X2_seeFromPost, ws_X2_seeFromPost, wi_X2, wc_X2_seeFromPost, ⟨by decide +kernel, by decide +kernel, by decide +kernel⟩⟩
theorem xl_X2_112 : xLinkV RX2 112 yX2_nodeBefore cX2_nodeBefore 3 (some .int) 1 := ⟨wl_X2_112, wm_X2_nodeBefore, ws_X2_nodeBefore, wi_X2, wc_X2_nodeBefore, ⟨by decide +kernel, by decide +kernel, by decide +kernel⟩⟩
theorem xl_X2_52 : xLinkV RX2 52 yX2_sink cX2_sink 4 none 1 := ⟨wl_X2_52, wm_X2_sink, ws_X2_sink, wi_X2, wc_X2_sink, ⟨by decide +kernel, by decide +kernel, by decide +kernel⟩⟩
theorem xl_X4_129 : xLinkV RX4 129 yX2_givenAt cX2_givenAt 4 (some .int) 1 := ⟨wl_X4_129, wm_X2_givenAt, ws_X2_givenAt, wi_X2, wc_X2_givenAt, ⟨by decide +kernel, by decide +kernel, by decide +kernel⟩⟩
theorem xl_L_44 : xLinkV RL 44 yX4_told cX4_told 2 (some .int) 1 := ⟨wl_L_44, wm_X4_told, ws_X4_told, wi_X4, wc_X4_told, ⟨by decide +kernel, by decide +kernel, by decide +kernel⟩⟩
theorem xl_X4_132 : xLinkV RX4 132 yX3_sidesWith cX3_sidesWith 4 (some .int) 1 := ⟨wl_X4_132, wm_X3_sidesWith, ws_X3_sidesWith, wi_X3, wc_X3_sidesWith, ⟨by decide +kernel, by decide +kernel, by decide +kernel⟩⟩
theorem xl_X4_135 : xLinkV RX4 135 yX3_character cX3_character 3 (some .int) 0 := ⟨wl_X4_135, wm_X3_character, ws_X3_character, wi_X3, wc_X3_character, ⟨by decide +kernel, by decide +kernel, by decide +kernel⟩⟩
theorem xl_X3_81 : xLinkV RX3 81 yX3_sidesWith cX3_sidesWith 4 (some .int) 1 := ⟨wl_X3_81, wm_X3_sidesWith, ws_X3_sidesWith, wi_X3, wc_X3_sidesWith, ⟨by decide +kernel, by decide +kernel, by decide +kernel⟩⟩
theorem xl_X4_138 : xLinkV RX4 138 yX3_pieces cX3_pieces 4 (some .int) 0 := ⟨wl_X4_138, wm_X3_pieces, ws_X3_pieces, wi_X3, wc_X3_pieces, ⟨by decide +kernel, by decide +kernel, by decide +kernel⟩⟩
theorem xl_X4_141 : xLinkV RX4 141 yX3_allSums cX3_allSums 3 (some .int) 0 := ⟨wl_X4_141, wm_X3_allSums, ws_X3_allSums, wi_X3, wc_X3_allSums, ⟨by decide +kernel, by decide +kernel, by decide +kernel⟩⟩
theorem xl_L_48 : xLinkV RL 48 yX4_straight cX4_straight 3 (some .int) 1 := ⟨wl_L_48, wm_X4_straight, ws_X4_straight, wi_X4, wc_X4_straight, ⟨by decide +kernel, by decide +kernel, by decide +kernel⟩⟩
theorem xl_L_52 : xLinkV RL 52 yX4_least cX4_least 3 (some .int) 1 := ⟨wl_L_52, wm_X4_least, ws_X4_least, wi_X4, wc_X4_least, ⟨by decide +kernel, by decide +kernel, by decide +kernel⟩⟩
theorem xl_L_56 : xLinkV RL 56 yX4_tell cX4_tell 4 (some .int) 2 := ⟨wl_L_56, wm_X4_tell, ws_X4_tell, wi_X4, wc_X4_tell, ⟨by decide +kernel, by decide +kernel, by decide +kernel⟩⟩
theorem xl_L_60 : xLinkV RL 60 yX4_can cX4_can 1 (some .int) 0 := ⟨wl_L_60, wm_X4_can, ws_X4_can, wi_X4, wc_X4_can, ⟨by decide +kernel, by decide +kernel, by decide +kernel⟩⟩
theorem xl_L_65 : xLinkV RL 65 yX4_angle cX4_angle 2 (some .int) 1 := ⟨wl_L_65, wm_X4_angle, ws_X4_angle, wi_X4, wc_X4_angle, ⟨by decide +kernel, by decide +kernel, by decide +kernel⟩⟩
theorem xl_X4_147 : xLinkV RX4 147 yX2_given cX2_given 2 (some .int) 1 := ⟨wl_X4_147, wm_X2_given, ws_X2_given, wi_X2, wc_X2_given, ⟨by decide +kernel, by decide +kernel, by decide +kernel⟩⟩
theorem xl_L_69 : xLinkV RL 69 yX4_best cX4_best 5 (some .int) 0 := ⟨wl_L_69, wm_X4_best, ws_X4_best, wi_X4, wc_X4_best, ⟨by decide +kernel, by decide +kernel, by decide +kernel⟩⟩
theorem xl_X4_155 : xLinkV RX4 155 yX2_findAny cX2_findAny 5 (some .boolean) 2 := ⟨wl_X4_155, wm_X2_findAny, ws_X2_findAny, wi_X2, wc_X2_findAny, ⟨by decide +kernel, by decide +kernel, by decide +kernel⟩⟩
theorem xl_L_73 : xLinkV RL 73 yX4_bar cX4_bar 2 (some .int) 1 := ⟨wl_L_73, wm_X4_bar, ws_X4_bar, wi_X4, wc_X4_bar, ⟨by decide +kernel, by decide +kernel, by decide +kernel⟩⟩
theorem xl_X4_158 : xLinkV RX4 158 yX1_fewest cX1_fewest 8 (some .int) 3 := ⟨wl_X4_158, wm_X1_fewest, ws_X1_fewest, wi_X1, wc_X1_fewest, ⟨by decide +kernel, by decide +kernel, by decide +kernel⟩⟩
theorem xl_X1_32 : xLinkV RX1 32 yX1_lookAtPosts cX1_lookAtPosts 6 none 1 := ⟨wl_X1_32, wm_X1_lookAtPosts, ws_X1_lookAtPosts, wi_X1, wc_X1_lookAtPosts, ⟨by decide +kernel, by decide +kernel, by decide +kernel⟩⟩
theorem xl_X1_56 : xLinkV RX1 56 yX3_postCount cX3_postCount 1 (some .int) 0 := ⟨wl_X1_56, wm_X3_postCount, ws_X3_postCount, wi_X3, wc_X3_postCount, ⟨by decide +kernel, by decide +kernel, by decide +kernel⟩⟩
theorem xl_X1_61 : xLinkV RX1 61 yX3_sumOf cX3_sumOf 2 (some .int) 1 := ⟨wl_X1_61, wm_X3_sumOf, ws_X3_sumOf, wi_X3, wc_X3_sumOf, ⟨by decide +kernel, by decide +kernel, by decide +kernel⟩⟩
theorem xl_X1_64 : xLinkV RX1 64 yX3_cornersAt cX3_cornersAt 4 (some .int) 1 := ⟨wl_X1_64, wm_X3_cornersAt, ws_X3_cornersAt, wi_X3, wc_X3_cornersAt, ⟨by decide +kernel, by decide +kernel, by decide +kernel⟩⟩
theorem xl_X1_67 : xLinkV RX1 67 yX3_isTold cX3_isTold 2 (some .boolean) 1 := ⟨wl_X1_67, wm_X3_isTold, ws_X3_isTold, wi_X3, wc_X3_isTold, ⟨by decide +kernel, by decide +kernel, by decide +kernel⟩⟩
theorem xl_X1_36 : xLinkV RX1 36 yX1_lookAtThirds cX1_lookAtThirds 5 none 0 := ⟨wl_X1_36, wm_X1_lookAtThirds, ws_X1_lookAtThirds, wi_X1, wc_X1_lookAtThirds, ⟨by decide +kernel, by decide +kernel, by decide +kernel⟩⟩
theorem xl_X1_71 : xLinkV RX1 71 yX3_thirdCount cX3_thirdCount 1 (some .int) 0 := ⟨wl_X1_71, wm_X3_thirdCount, ws_X3_thirdCount, wi_X3, wc_X3_thirdCount, ⟨by decide +kernel, by decide +kernel, by decide +kernel⟩⟩
theorem xl_X1_74 : xLinkV RX1 74 yX3_postOf cX3_postOf 2 (some .int) 1 := ⟨wl_X1_74, wm_X3_postOf, ws_X3_postOf, wi_X3, wc_X3_postOf, ⟨by decide +kernel, by decide +kernel, by decide +kernel⟩⟩
theorem xl_X1_39 : xLinkV RX1 39 yX1_thirdsAtToldPosts cX1_thirdsAtToldPosts 3 (some .int) 0 := ⟨wl_X1_39, wm_X1_thirdsAtToldPosts, ws_X1_thirdsAtToldPosts, wi_X1, wc_X1_thirdsAtToldPosts, ⟨by decide +kernel, by decide +kernel, by decide +kernel⟩⟩
theorem xl_X1_46 : xLinkS RX1 46 yJ6_bitCount_0f7a4 cJ6_bitCount_0f7a4 1 (some .int) 1 := ⟨wl_X1_46, wt_J6_bitCount_0f7a4, wi_J6, wc_J6_bitCount_0f7a4, ⟨by decide +kernel, by decide +kernel, by decide +kernel⟩⟩
theorem xl_X1_52 : xLinkV RX1 52 yX1_isBar cX1_isBar 3 (some .boolean) 2 := ⟨wl_X1_52, wm_X1_isBar, ws_X1_isBar, wi_X1, wc_X1_isBar, ⟨by decide +kernel, by decide +kernel, by decide +kernel⟩⟩
theorem xl_X1_77 : xLinkV RX1 77 yX1_roomFor cX1_roomFor 3 (some .int) 1 := ⟨wl_X1_77, wm_X1_roomFor, ws_X1_roomFor, wi_X1, wc_X1_roomFor, ⟨by decide +kernel, by decide +kernel, by decide +kernel⟩⟩
theorem xl_X1_80 : xLinkV RX1 80 yX1_mostOf cX1_mostOf 5 (some .int) 1 := ⟨wl_X1_80, wm_X1_mostOf, ws_X1_mostOf, wi_X1, wc_X1_mostOf, ⟨by decide +kernel, by decide +kernel, by decide +kernel⟩⟩
theorem xl_X1_83 : xLinkV RX1 83 yX1_leastOf cX1_leastOf 5 (some .int) 1 := ⟨wl_X1_83, wm_X1_leastOf, ws_X1_leastOf, wi_X1, wc_X1_leastOf, ⟨by decide +kernel, by decide +kernel, by decide +kernel⟩⟩
theorem xl_L_77 : xLinkV RL 77 yX4_opposite cX4_opposite 3 (some .int) 2 := ⟨wl_L_77, wm_X4_opposite, ws_X4_opposite, wi_X4, wc_X4_opposite, ⟨by decide +kernel, by decide +kernel, by decide +kernel⟩⟩
theorem xl_X4_161 : xLinkV RX4 161 yX4_givenOpposite cX4_givenOpposite 4 (some .int) 2 := ⟨wl_X4_161, wm_X4_givenOpposite, ws_X4_givenOpposite, wi_X4, wc_X4_givenOpposite, ⟨by decide +kernel, by decide +kernel, by decide +kernel⟩⟩
theorem xl_L_81 : xLinkV RL 81 yX4_fit cX4_fit 4 (some .int) 0 := ⟨wl_L_81, wm_X4_fit, ws_X4_fit, wi_X4, wc_X4_fit, ⟨by decide +kernel, by decide +kernel, by decide +kernel⟩⟩
theorem xl_L_85 : xLinkV RL 85 yX4_undo cX4_undo 1 (some .int) 0 := ⟨wl_L_85, wm_X4_undo, ws_X4_undo, wi_X4, wc_X4_undo, ⟨by decide +kernel, by decide +kernel, by decide +kernel⟩⟩
theorem xl_X4_164 : xLinkV RX4 164 yX0_behind cX0_behind 1 (some .int) 0 := ⟨wl_X4_164, wm_X0_behind, ws_X0_behind, wi_X0, wc_X0_behind, ⟨by decide +kernel, by decide +kernel, by decide +kernel⟩⟩
theorem xl_X4_167 : xLinkV RX4 167 yX0_backward cX0_backward 2 none 1 := ⟨wl_X4_167, wm_X0_backward, ws_X0_backward, wi_X0, wc_X0_backward, ⟨by decide +kernel, by decide +kernel, by decide +kernel⟩⟩
theorem xl_L_89 : xLinkV RL 89 yX4_redo cX4_redo 1 (some .int) 0 := ⟨wl_L_89, wm_X4_redo, ws_X4_redo, wi_X4, wc_X4_redo, ⟨by decide +kernel, by decide +kernel, by decide +kernel⟩⟩
theorem xl_X4_170 : xLinkV RX4 170 yX0_ahead cX0_ahead 1 (some .int) 0 := ⟨wl_X4_170, wm_X0_ahead, ws_X0_ahead, wi_X0, wc_X0_ahead, ⟨by decide +kernel, by decide +kernel, by decide +kernel⟩⟩
theorem xl_X5_50 : xLinkV RX5 50 yX5_begin cX5_begin 2 none 0 := ⟨wl_X5_50, wm_X5_begin, ws_X5_begin, wi_X5, wc_X5_begin, ⟨by decide +kernel, by decide +kernel, by decide +kernel⟩⟩
theorem xl_L_17 : xLinkV RL 17 yX5_posts cX5_posts 3 (some .int) 1 := ⟨wl_L_17, wm_X5_posts, ws_X5_posts, wi_X5, wc_X5_posts, ⟨by decide +kernel, by decide +kernel, by decide +kernel⟩⟩
theorem xl_X5_66 : xLinkS RX5 66 yX5_in cX5_in 3 (some .boolean) 3 := ⟨wl_X5_66, wt_X5_in, wi_X5, wc_X5_in, ⟨by decide +kernel, by decide +kernel, by decide +kernel⟩⟩
theorem xl_L_22 : xLinkV RL 22 yX5_third cX5_third 4 (some .int) 3 := ⟨wl_L_22, wm_X5_third, ws_X5_third, wi_X5, wc_X5_third, ⟨by decide +kernel, by decide +kernel, by decide +kernel⟩⟩
theorem xl_X5_78 : xLinkV RX5 78 yX5_arePair cX5_arePair 3 (some .boolean) 2 := ⟨wl_X5_78, wm_X5_arePair, ws_X5_arePair, wi_X5, wc_X5_arePair, ⟨by decide +kernel, by decide +kernel, by decide +kernel⟩⟩
theorem xl_X5_70 : xLinkV RX5 70 yX5_isPost cX5_isPost 2 (some .boolean) 1 := ⟨wl_X5_70, wm_X5_isPost, ws_X5_isPost, wi_X5, wc_X5_isPost, ⟨by decide +kernel, by decide +kernel, by decide +kernel⟩⟩
theorem xl_X5_74 : xLinkV RX5 74 yX5_arrowOf cX5_arrowOf 4 (some .int) 2 := ⟨wl_X5_74, wm_X5_arrowOf, ws_X5_arrowOf, wi_X5, wc_X5_arrowOf, ⟨by decide +kernel, by decide +kernel, by decide +kernel⟩⟩
theorem xl_X5_82 : xLinkV RX5 82 yX5_put cX5_put 5 none 4 := ⟨wl_X5_82, wm_X5_put, ws_X5_put, wi_X5, wc_X5_put, ⟨by decide +kernel, by decide +kernel, by decide +kernel⟩⟩
theorem xl_X5_86 : xLinkV RX5 86 yX5_write cX5_write 5 none 3 := ⟨wl_X5_86, wm_X5_write, ws_X5_write, wi_X5, wc_X5_write, ⟨by decide +kernel, by decide +kernel, by decide +kernel⟩⟩
theorem xl_X5_90 : xLinkV RX5 90 yX5_keepThirds cX5_keepThirds 5 none 3 := ⟨wl_X5_90, wm_X5_keepThirds, ws_X5_keepThirds, wi_X5, wc_X5_keepThirds, ⟨by decide +kernel, by decide +kernel, by decide +kernel⟩⟩
theorem xl_L_26 : xLinkV RL 26 yX5_at cX5_at 2 (some .int) 1 := ⟨wl_L_26, wm_X5_at, ws_X5_at, wi_X5, wc_X5_at, ⟨by decide +kernel, by decide +kernel, by decide +kernel⟩⟩
theorem xl_L_31 : xLinkV RL 31 yX5_side cX5_side 3 (some .int) 2 := ⟨wl_L_31, wm_X5_side, ws_X5_side, wi_X5, wc_X5_side, ⟨by decide +kernel, by decide +kernel, by decide +kernel⟩⟩
theorem xl_X5_93 : xLinkV RX5 93 yX5_sideOf cX5_sideOf 3 (some .int) 2 := ⟨wl_X5_93, wm_X5_sideOf, ws_X5_sideOf, wi_X5, wc_X5_sideOf, ⟨by decide +kernel, by decide +kernel, by decide +kernel⟩⟩
theorem xl_L_35 : xLinkV RL 35 yX5_arrow cX5_arrow 3 (some .int) 2 := ⟨wl_L_35, wm_X5_arrow, ws_X5_arrow, wi_X5, wc_X5_arrow, ⟨by decide +kernel, by decide +kernel, by decide +kernel⟩⟩
theorem xl_L_39 : xLinkV RL 39 yX5_turn cX5_turn 7 (some .int) 2 := ⟨wl_L_39, wm_X5_turn, ws_X5_turn, wi_X5, wc_X5_turn, ⟨by decide +kernel, by decide +kernel, by decide +kernel⟩⟩
theorem xl_X5_96 : xLinkV RX5 96 yX5_oppositeCorner cX5_oppositeCorner 5 (some .int) 3 := ⟨wl_X5_96, wm_X5_oppositeCorner, ws_X5_oppositeCorner, wi_X5, wc_X5_oppositeCorner, ⟨by decide +kernel, by decide +kernel, by decide +kernel⟩⟩
theorem xl_L_59 : xLinkV RL 59 yX5_tell cX5_tell 4 (some .int) 2 := ⟨wl_L_59, wm_X5_tell, ws_X5_tell, wi_X5, wc_X5_tell, ⟨by decide +kernel, by decide +kernel, by decide +kernel⟩⟩
theorem xl_L_88 : xLinkV RL 88 yX5_undo cX5_undo 2 (some .int) 0 := ⟨wl_L_88, wm_X5_undo, ws_X5_undo, wi_X5, wc_X5_undo, ⟨by decide +kernel, by decide +kernel, by decide +kernel⟩⟩
theorem xl_X5_100 : xLinkV RX5 100 yX5_takeThirds cX5_takeThirds 5 none 3 := ⟨wl_X5_100, wm_X5_takeThirds, ws_X5_takeThirds, wi_X5, wc_X5_takeThirds, ⟨by decide +kernel, by decide +kernel, by decide +kernel⟩⟩
theorem xl_L_92 : xLinkV RL 92 yX5_redo cX5_redo 2 (some .int) 0 := ⟨wl_L_92, wm_X5_redo, ws_X5_redo, wi_X5, wc_X5_redo, ⟨by decide +kernel, by decide +kernel, by decide +kernel⟩⟩
theorem xl_L_43 : xLinkV RL 43 yX5_about cX5_about 3 (some .int) 2 := ⟨wl_L_43, wm_X5_about, ws_X5_about, wi_X5, wc_X5_about, ⟨by decide +kernel, by decide +kernel, by decide +kernel⟩⟩
theorem xl_X5_113 : xLinkV RX5 113 yX5_cornersAt cX5_cornersAt 4 (some .int) 1 := ⟨wl_X5_113, wm_X5_cornersAt, ws_X5_cornersAt, wi_X5, wc_X5_cornersAt, ⟨by decide +kernel, by decide +kernel, by decide +kernel⟩⟩
theorem xl_X5_117 : xLinkV RX5 117 yX5_sidesAt cX5_sidesAt 6 (some .int) 3 := ⟨wl_X5_117, wm_X5_sidesAt, ws_X5_sidesAt, wi_X5, wc_X5_sidesAt, ⟨by decide +kernel, by decide +kernel, by decide +kernel⟩⟩
theorem xl_X5_120 : xLinkV RX5 120 yX5_pieces cX5_pieces 7 (some .int) 1 := ⟨wl_X5_120, wm_X5_pieces, ws_X5_pieces, wi_X5, wc_X5_pieces, ⟨by decide +kernel, by decide +kernel, by decide +kernel⟩⟩
theorem xl_X5_103 : xLinkV RX5 103 yX5_hasPost cX5_hasPost 3 (some .boolean) 2 := ⟨wl_X5_103, wm_X5_hasPost, ws_X5_hasPost, wi_X5, wc_X5_hasPost, ⟨by decide +kernel, by decide +kernel, by decide +kernel⟩⟩
theorem xl_X5_106 : xLinkV RX5 106 yX5_hang cX5_hang 8 (some .boolean) 3 := ⟨wl_X5_106, wm_X5_hang, ws_X5_hang, wi_X5, wc_X5_hang, ⟨by decide +kernel, by decide +kernel, by decide +kernel⟩⟩
theorem xl_X5_123 : xLinkV RX5 123 yX5_sumOfRow cX5_sumOfRow 4 (some .int) 1 := ⟨wl_X5_123, wm_X5_sumOfRow, ws_X5_sumOfRow, wi_X5, wc_X5_sumOfRow, ⟨by decide +kernel, by decide +kernel, by decide +kernel⟩⟩
theorem xl_X5_109 : xLinkV RX5 109 yX5_hasRow cX5_hasRow 2 (some .boolean) 0 := ⟨wl_X5_109, wm_X5_hasRow, ws_X5_hasRow, wi_X5, wc_X5_hasRow, ⟨by decide +kernel, by decide +kernel, by decide +kernel⟩⟩
theorem xl_X5_156 : xLinkV RX5 156 yX5_canWith cX5_canWith 4 (some .boolean) 1 := ⟨wl_X5_156, wm_X5_canWith, ws_X5_canWith, wi_X5, wc_X5_canWith, ⟨by decide +kernel, by decide +kernel, by decide +kernel⟩⟩
theorem xl_X5_152 : xLinkV RX5 152 yX5_fill cX5_fill 6 none 1 := ⟨wl_X5_152, wm_X5_fill, ws_X5_fill, wi_X5, wc_X5_fill, ⟨by decide +kernel, by decide +kernel, by decide +kernel⟩⟩
theorem xl_X5_135 : xLinkV RX5 135 yX5_clearWays cX5_clearWays 2 none 0 := ⟨wl_X5_135, wm_X5_clearWays, ws_X5_clearWays, wi_X5, wc_X5_clearWays, ⟨by decide +kernel, by decide +kernel, by decide +kernel⟩⟩
theorem xl_X5_132 : xLinkV RX5 132 yX5_come cX5_come 4 none 3 := ⟨wl_X5_132, wm_X5_come, ws_X5_come, wi_X5, wc_X5_come, ⟨by decide +kernel, by decide +kernel, by decide +kernel⟩⟩
theorem xl_X5_138 : xLinkV RX5 138 yX5_spread cX5_spread 6 none 2 := ⟨wl_X5_138, wm_X5_spread, ws_X5_spread, wi_X5, wc_X5_spread, ⟨by decide +kernel, by decide +kernel, by decide +kernel⟩⟩
theorem xl_X5_142 : xLinkV RX5 142 yX5_wanting cX5_wanting 4 (some .int) 1 := ⟨wl_X5_142, wm_X5_wanting, ws_X5_wanting, wi_X5, wc_X5_wanting, ⟨by decide +kernel, by decide +kernel, by decide +kernel⟩⟩
theorem xl_X5_146 : xLinkV RX5 146 yX5_wayRoom cX5_wayRoom 5 (some .int) 2 := ⟨wl_X5_146, wm_X5_wayRoom, ws_X5_wayRoom, wi_X5, wc_X5_wayRoom, ⟨by decide +kernel, by decide +kernel, by decide +kernel⟩⟩
theorem xl_X5_149 : xLinkV RX5 149 yX5_goWay cX5_goWay 4 (some .int) 2 := ⟨wl_X5_149, wm_X5_goWay, ws_X5_goWay, wi_X5, wc_X5_goWay, ⟨by decide +kernel, by decide +kernel, by decide +kernel⟩⟩
theorem xl_X5_162 : xLinkV RX5 162 yX5_lower cX5_lower 6 none 1 := ⟨wl_X5_162, wm_X5_lower, ws_X5_lower, wi_X5, wc_X5_lower, ⟨by decide +kernel, by decide +kernel, by decide +kernel⟩⟩
theorem xl_L_47 : xLinkV RL 47 yX5_told cX5_told 5 (some .int) 1 := ⟨wl_L_47, wm_X5_told, ws_X5_told, wi_X5, wc_X5_told, ⟨by decide +kernel, by decide +kernel, by decide +kernel⟩⟩
theorem xl_X5_126 : xLinkV RX5 126 yX5_sides cX5_sides 5 (some .int) 1 := ⟨wl_X5_126, wm_X5_sides, ws_X5_sides, wi_X5, wc_X5_sides, ⟨by decide +kernel, by decide +kernel, by decide +kernel⟩⟩
theorem xl_L_51 : xLinkV RL 51 yX5_straight cX5_straight 3 (some .int) 1 := ⟨wl_L_51, wm_X5_straight, ws_X5_straight, wi_X5, wc_X5_straight, ⟨by decide +kernel, by decide +kernel, by decide +kernel⟩⟩
theorem xl_L_55 : xLinkV RL 55 yX5_least cX5_least 3 (some .int) 1 := ⟨wl_L_55, wm_X5_least, ws_X5_least, wi_X5, wc_X5_least, ⟨by decide +kernel, by decide +kernel, by decide +kernel⟩⟩
theorem xl_L_64 : xLinkV RL 64 yX5_can cX5_can 1 (some .int) 0 := ⟨wl_L_64, wm_X5_can, ws_X5_can, wi_X5, wc_X5_can, ⟨by decide +kernel, by decide +kernel, by decide +kernel⟩⟩
theorem xl_L_68 : xLinkV RL 68 yX5_angle cX5_angle 2 (some .int) 1 := ⟨wl_L_68, wm_X5_angle, ws_X5_angle, wi_X5, wc_X5_angle, ⟨by decide +kernel, by decide +kernel, by decide +kernel⟩⟩
theorem xl_L_72 : xLinkV RL 72 yX5_best cX5_best 2 (some .int) 0 := ⟨wl_L_72, wm_X5_best, ws_X5_best, wi_X5, wc_X5_best, ⟨by decide +kernel, by decide +kernel, by decide +kernel⟩⟩
theorem xl_L_76 : xLinkV RL 76 yX5_bar cX5_bar 6 (some .int) 1 := ⟨wl_L_76, wm_X5_bar, ws_X5_bar, wi_X5, wc_X5_bar, ⟨by decide +kernel, by decide +kernel, by decide +kernel⟩⟩
theorem xl_X5_166 : xLinkS RX5 166 yX5_bits cX5_bits 3 (some .int) 1 := ⟨wl_X5_166, wt_X5_bits, wi_X5, wc_X5_bits, ⟨by decide +kernel, by decide +kernel, by decide +kernel⟩⟩
theorem xl_X5_169 : xLinkV RX5 169 yX5_thirdsBar cX5_thirdsBar 5 (some .boolean) 1 := ⟨wl_X5_169, wm_X5_thirdsBar, ws_X5_thirdsBar, wi_X5, wc_X5_thirdsBar, ⟨by decide +kernel, by decide +kernel, by decide +kernel⟩⟩
theorem xl_X5_172 : xLinkV RX5 172 yX5_postsBar cX5_postsBar 9 (some .boolean) 2 := ⟨wl_X5_172, wm_X5_postsBar, ws_X5_postsBar, wi_X5, wc_X5_postsBar, ⟨by decide +kernel, by decide +kernel, by decide +kernel⟩⟩
theorem xl_L_80 : xLinkV RL 80 yX5_opposite cX5_opposite 3 (some .int) 2 := ⟨wl_L_80, wm_X5_opposite, ws_X5_opposite, wi_X5, wc_X5_opposite, ⟨by decide +kernel, by decide +kernel, by decide +kernel⟩⟩
theorem xl_X5_175 : xLinkV RX5 175 yX5_oppositeOf cX5_oppositeOf 6 (some .int) 2 := ⟨wl_X5_175, wm_X5_oppositeOf, ws_X5_oppositeOf, wi_X5, wc_X5_oppositeOf, ⟨by decide +kernel, by decide +kernel, by decide +kernel⟩⟩
theorem xl_L_84 : xLinkV RL 84 yX5_fit cX5_fit 4 (some .int) 0 := ⟨wl_L_84, wm_X5_fit, ws_X5_fit, wi_X5, wc_X5_fit, ⟨by decide +kernel, by decide +kernel, by decide +kernel⟩⟩
end
section
/-! numbers: whole numbers for ints -/
def J (x : Int) : Int32 := Int32.ofInt x
def jR (x : Int) : Prop := -2147483648 ≤ x ∧ x < 2147483648
theorem J_toInt {x : Int} (h : jR x) : (J x).toInt = x := Int32.toInt_ofInt_of_le (by have := h.1; omega) (by have := h.2; omega)
theorem J_of (x : Int32) : J x.toInt = x := Int32.ofInt_toInt x
theorem jR_of (x : Int32) : jR x.toInt := ⟨by have := Int32.le_toInt x; omega, by have := Int32.toInt_lt x; omega⟩
theorem J_add (a b : Int) : J a + J b = J (a + b) := (Int32.ofInt_add a b).symm
theorem J_sub (a b : Int) : J a - J b = J (a - b) := (Int32.ofInt_sub a b).symm
theorem J_mul (a b : Int) : J a * J b = J (a * b) := (Int32.ofInt_mul a b).symm
theorem J_neg (a : Int) : - J a = J (-a) := (Int32.ofInt_neg a).symm
theorem J_lt {a b : Int} (ha : jR a) (hb : jR b) : J a < J b ↔ a < b := by rw [Int32.lt_iff_toInt_lt, J_toInt ha, J_toInt hb]
theorem J_le {a b : Int} (ha : jR a) (hb : jR b) : J a ≤ J b ↔ a ≤ b := by rw [Int32.le_iff_toInt_le, J_toInt ha, J_toInt hb]
theorem J_eq {a b : Int} (ha : jR a) (hb : jR b) : J a = J b ↔ a = b := by rw [← Int32.toInt_inj, J_toInt ha, J_toInt hb]
theorem jR_0 : jR 0 := by unfold jR; omega
theorem J_0 : J 0 = 0 := by decide +kernel
theorem J_lt0 {a : Int} (ha : jR a) : J a < 0 ↔ a < 0 := by rw [← J_0]; exact J_lt ha jR_0
theorem J_le0 {a : Int} (ha : jR a) : J a ≤ 0 ↔ a ≤ 0 := by rw [← J_0]; exact J_le ha jR_0
theorem J_0lt {a : Int} (ha : jR a) : 0 < J a ↔ 0 < a := by rw [← J_0]; exact J_lt jR_0 ha
theorem J_0le {a : Int} (ha : jR a) : 0 ≤ J a ↔ 0 ≤ a := by rw [← J_0]; exact J_le jR_0 ha
theorem J_eq0 {a : Int} (ha : jR a) : J a = 0 ↔ a = 0 := by
  have h := J_eq ha jR_0
  rw [J_0] at h
  exact h
def jand (a b : Int) : Int := (J a &&& J b).toInt
def jor (a b : Int) : Int := (J a ||| J b).toInt
def jxor (a b : Int) : Int := (J a ^^^ J b).toInt
def jshl (a b : Int) : Int := (J a <<< (J b &&& 31)).toInt
def jshr (a b : Int) : Int := (J a >>> (J b &&& 31)).toInt
def jushr (a b : Int) : Int := ((J a).toUInt32 >>> ((J b).toUInt32 &&& Int32.toUInt32 31)).toInt32.toInt
def jdiv (a b : Int) : Int := (J a / J b).toInt
def jrem (a b : Int) : Int := (J a - J a / J b * J b).toInt
def jmax (a b : Int) : Int := if J a < J b then b else a
def jmin (a b : Int) : Int := if J b < J a then b else a
/-- a row of whole numbers, as ints -/
def jf (f : Nat → Int) : Nat → Int32 := fun i => J (f i)
def up (f : Nat → Int) (k : Nat) (x : Int) : Nat → Int := fun j => if j = k then x else f j
theorem jf_up (f : Nat → Int) (k : Nat) (x : Int) : upd (jf f) k (J x) = jf (up f k x) := by
  funext j
  show (if j = k then J x else J (f j)) = J (if j = k then x else f j)
  by_cases h : j = k
  · rw [if_pos h, if_pos h]
  · rw [if_neg h, if_neg h]
def cpy (f g : Nat → Int) (sp dp n : Nat) : Nat → Int := fun k => if dp ≤ k ∧ k < dp + n then f (sp + (k - dp)) else g k
theorem jf_cpy (f g : Nat → Int) (sp dp n : Nat) : va_cpy (jf f) (jf g) sp dp n = jf (cpy f g sp dp n) := by
  funext j
  show (if dp ≤ j ∧ j < dp + n then J (f (sp + (j - dp))) else J (g j)) = J (if dp ≤ j ∧ j < dp + n then f (sp + (j - dp)) else g j)
  by_cases h : dp ≤ j ∧ j < dp + n
  · rw [if_pos h, if_pos h]
  · rw [if_neg h, if_neg h]
theorem jin {i : Int} {n : Nat} (h : 0 ≤ i ∧ i < n) (hn : n < 2147483648) : vp_in (J i) n ∧ (J i).toNatClampNeg = i.toNat := by
  have hR : jR i := ⟨by omega, by omega⟩
  have h2 : (J i).toNatClampNeg = i.toNat := by
    show (J i).toInt.toNat = i.toNat
    rw [J_toInt hR]
  refine ⟨?_, h2⟩
  rw [vp_in_iff, J_toInt hR]
  exact h
/-! worlds: what a method of a class stands on, and what the heap holds -/
def XC (p : Program) (s : State) (m : MethodId) (args : Array Value) (meth : Method) (c : Code) (cc : ByteArray) (nL : Nat) (own : String) (ret : Option FieldType) (D : va_G) (cA : ClassId) (A : Nat → Prop) : Prop :=
  CallFix p m c cc nL s args lw_ok own ∧ meth.sig.returnType = ret ∧ meth.locks = false ∧ va_K D vwCl [(cA, .int)] s ∧ ∀ q : Nat, s.heap.size ≤ q → A q
def XH (D : va_G) (A : Nat → Prop) (s : State) (ws : va_W) (H : Heap) (locs : List Loc) : Prop := va_P D vwCl ws H ∧ va_D A ws ∧ va_S A s.heap H locs
def xPre (D : va_G) (cA : ClassId) (sz : Nat) (av : List Value) (ws : va_W) : Array Value → State → Prop := va_Pc av (fun U => U.heap.size = sz ∧ va_P D vwCl ws U.heap ∧ va_K D vwCl [(cA, .int)] U ∧ va_D (fun _ => True) ws)
def xB (D : va_G) (cA : ClassId) (A : Nat → Prop) (w : va_W) (t : State) : Prop := va_P D vwCl w t.heap ∧ va_K D vwCl [(cA, .int)] t ∧ va_D A w
theorem xPre_blind {D : va_G} {cA : ClassId} {sz : Nat} {av : List Value} {ws : va_W} : FrameBlind (xPre D cA sz av ws) := fun a U g mk q => by
  obtain ⟨q0, q1, qP, qK, qD⟩ := q
  exact ⟨q0, q1, qP, va_K.moved (u := U) (U := U.calling g mk a) (Vm.Alike.refl U.vm) qK, qD⟩
theorem xPre_at {D : va_G} {cA : ClassId} {av : List Value} {ws : va_W} {s : State} {A : Nat → Prop} {H : Heap} {locs : List Loc} (hK : va_K D vwCl [(cA, .int)] s) (h : XH D A s ws H locs) : ∀ U : State, U.heap = H → s.WarmedH U.vm → xPre D cA H.size av ws av.toArray U := fun U hU hW => ⟨rfl, by rw [hU], by rw [hU]; exact h.1, va_K.moved hW.alike hK, h.2.1.weaken (fun _ _ _ _ => trivial)⟩
theorem xA_in {D : va_G} {A : Nat → Prop} {s : State} {ws : va_W} {H : Heap} {locs : List Loc} (hA : ∀ q : Nat, s.heap.size ≤ q → A q) (h : XH D A s ws H locs) : ∀ q, va_A ws H.size q → A q := fun q hq => by
  rcases hq with ⟨k, e, hk⟩ | hq
  · exact h.2.1.2 k (q, e) hk
  · exact hA q (Nat.le_trans h.2.2.1 hq)
section JR
variable {p : Program} {l : Launch} {e : Env} {R : Room} {s : State} {m : MethodId} {args : Array Value} {below : List Frame} {meth : Method} {c : Code} {H : Heap} {locs : List Loc} {Q : State → Prop}
variable {cc : ByteArray} {pc nL : Nat} {ls : Array Slot} {rest : List Value} {D : va_G} {cA : ClassId} {A : Nat → Prop} {own : String} {ret : Option FieldType} {ws : va_W}
theorem j_top {x : Int} (k : ∀ y : Int, y = x → W p l e R s m args below meth c H locs 0 0 Q (F0 m pc ls (.int (J y) :: rest))) : W p l e R s m args below meth c H locs 0 0 Q (F0 m pc ls (.int (J x) :: rest)) := k x rfl
theorem j_iconst (C : XC p s m args meth c cc nL own ret D cA A) {n : Int} (hdg : decode cc pc = .ok (.iconst n, 1)) (k : W p l e R s m args below meth c H locs 0 0 Q (F0 m (pc + 1) ls (.int (J n) :: rest))) : W p l e R s m args below meth c H locs 0 0 Q (F0 m pc ls rest) := lv_iconst C.1.1 C.1.2.1 hdg rfl k
theorem j_bipush (C : XC p s m args meth c cc nL own ret D cA A) {n : Int} (hn : (Int8.ofInt n).toInt32 = J n) (hdg : decode cc pc = .ok (.bipush n, 2)) (k : W p l e R s m args below meth c H locs 0 0 Q (F0 m (pc + 2) ls (.int (J n) :: rest))) : W p l e R s m args below meth c H locs 0 0 Q (F0 m pc ls rest) := lv_bipush C.1.1 C.1.2.1 hdg hn k
theorem j_sipush (C : XC p s m args meth c cc nL own ret D cA A) {n : Int} (hn : (Int16.ofInt n).toInt32 = J n) (hdg : decode cc pc = .ok (.sipush n, 3)) (k : W p l e R s m args below meth c H locs 0 0 Q (F0 m (pc + 3) ls (.int (J n) :: rest))) : W p l e R s m args below meth c H locs 0 0 Q (F0 m pc ls rest) := lv_sipush C.1.1 C.1.2.1 hdg hn k
theorem j_ldc (C : XC p s m args meth c cc nL own ret D cA A) {n : Int} {v : Int32} {index : Nat} (hc : Cond.constant own index v ∈ lw_ok) (hn : v = J n) (hdg : decode cc pc = .ok (.ldc index, 2)) (k : W p l e R s m args below meth c H locs 0 0 Q (F0 m (pc + 2) ls (.int (J n) :: rest))) : W p l e R s m args below meth c H locs 0 0 Q (F0 m pc ls rest) := lv_ldc C.1.1 C.1.2.1 C.1.2.2.2.1 (C.1.2.2.2.2 _ hc) hdg (by rw [hn]; exact k)
theorem j_ldcw (C : XC p s m args meth c cc nL own ret D cA A) {n : Int} {v : Int32} {index : Nat} (hc : Cond.constant own index v ∈ lw_ok) (hn : v = J n) (hdg : decode cc pc = .ok (.ldc_w index, 3)) (k : W p l e R s m args below meth c H locs 0 0 Q (F0 m (pc + 3) ls (.int (J n) :: rest))) : W p l e R s m args below meth c H locs 0 0 Q (F0 m pc ls rest) := lv_ldcw C.1.1 C.1.2.1 C.1.2.2.2.1 (C.1.2.2.2.2 _ hc) hdg (by rw [hn]; exact k)
theorem j_iload_n (C : XC p s m args meth c cc nL own ret D cA A) {k : Fin 4} {x : Int} (hdg : decode cc pc = .ok (.iload_n k, 1)) (hl : ls[(k : Nat)]? = some (.val (.int (J x)))) (kk : W p l e R s m args below meth c H locs 0 0 Q (F0 m (pc + 1) ls (.int (J x) :: rest))) : W p l e R s m args below meth c H locs 0 0 Q (F0 m pc ls rest) := lv_iload_n C.1.1 C.1.2.1 hdg rfl hl kk
theorem j_iload (C : XC p s m args meth c cc nL own ret D cA A) {k : Nat} {x : Int} (hdg : decode cc pc = .ok (.iload k, 2)) (hl : ls[k]? = some (.val (.int (J x)))) (kk : W p l e R s m args below meth c H locs 0 0 Q (F0 m (pc + 2) ls (.int (J x) :: rest))) : W p l e R s m args below meth c H locs 0 0 Q (F0 m pc ls rest) := lv_iload C.1.1 C.1.2.1 hdg hl kk
theorem j_aload_n (C : XC p s m args meth c cc nL own ret D cA A) {k : Fin 4} {x : Nat} (hdg : decode cc pc = .ok (.aload_n k, 1)) (hl : ls[(k : Nat)]? = some (.val (.ref x))) (kk : W p l e R s m args below meth c H locs 0 0 Q (F0 m (pc + 1) ls (.ref x :: rest))) : W p l e R s m args below meth c H locs 0 0 Q (F0 m pc ls rest) := lv_aload_n C.1.1 C.1.2.1 hdg rfl hl kk
theorem j_istore_n (C : XC p s m args meth c cc nL own ret D cA A) {k : Fin 4} {x : Int} {lv lv' : List (Nat × Value)} (hdg : decode cc pc = .ok (.istore_n k, 1)) (h : lv_has ls nL lv) (hn : (k : Nat) < nL) (hl : ((k : Nat), Value.int (J x)) :: lv.filter (fun q => !(q.1 == (k : Nat)) && !(q.1 + 1 == (k : Nat) && q.2.category == 2)) = lv') (kk : ∀ ls' : Array Slot, lv_has ls' nL lv' → W p l e R s m args below meth c H locs 0 0 Q (F0 m (pc + 1) ls' rest)) : W p l e R s m args below meth c H locs 0 0 Q (F0 m pc ls (.int (J x) :: rest)) := lv_istore_n C.1.1 C.1.2.1 hdg rfl h hn hl kk
theorem j_istore (C : XC p s m args meth c cc nL own ret D cA A) {k : Nat} {x : Int} {lv lv' : List (Nat × Value)} (hdg : decode cc pc = .ok (.istore k, 2)) (h : lv_has ls nL lv) (hn : k < nL) (hl : (k, Value.int (J x)) :: lv.filter (fun q => !(q.1 == k) && !(q.1 + 1 == k && q.2.category == 2)) = lv') (kk : ∀ ls' : Array Slot, lv_has ls' nL lv' → W p l e R s m args below meth c H locs 0 0 Q (F0 m (pc + 2) ls' rest)) : W p l e R s m args below meth c H locs 0 0 Q (F0 m pc ls (.int (J x) :: rest)) := lv_istore C.1.1 C.1.2.1 hdg h hn hl kk
theorem j_iinc (C : XC p s m args meth c cc nL own ret D cA A) {i k : Nat} {n x v : Int} {lv lv' : List (Nat × Value)} (hdg : decode cc pc = .ok (.iinc i n, 3)) (h : lv_has ls nL lv) (hk : lv[k]? = some (i, .int (J x))) (hv : v = x + n) (hn : i < nL) (hl : (i, Value.int (J v)) :: lv.filter (fun q => !(q.1 == i) && !(q.1 + 1 == i && q.2.category == 2)) = lv') (kk : ∀ ls' : Array Slot, lv_has ls' nL lv' → W p l e R s m args below meth c H locs 0 0 Q (F0 m (pc + 3) ls' rest)) : W p l e R s m args below meth c H locs 0 0 Q (F0 m pc ls rest) := lv_iinc (v := J v) C.1.1 C.1.2.1 hdg h hk (by rw [hv]; exact J_add x n) hn hl kk
theorem j_iadd (C : XC p s m args meth c cc nL own ret D cA A) {a b : Int} (hdg : decode cc pc = .ok (.iadd, 1)) (k : W p l e R s m args below meth c H locs 0 0 Q (F0 m (pc + 1) ls (.int (J (a + b)) :: rest))) : W p l e R s m args below meth c H locs 0 0 Q (F0 m pc ls (.int (J b) :: .int (J a) :: rest)) := lv_iadd C.1.1 C.1.2.1 hdg (by rw [J_add]; exact k)
theorem j_isub (C : XC p s m args meth c cc nL own ret D cA A) {a b : Int} (hdg : decode cc pc = .ok (.isub, 1)) (k : W p l e R s m args below meth c H locs 0 0 Q (F0 m (pc + 1) ls (.int (J (a - b)) :: rest))) : W p l e R s m args below meth c H locs 0 0 Q (F0 m pc ls (.int (J b) :: .int (J a) :: rest)) := lv_isub C.1.1 C.1.2.1 hdg (by rw [J_sub]; exact k)
theorem j_imul (C : XC p s m args meth c cc nL own ret D cA A) {a b : Int} (hdg : decode cc pc = .ok (.imul, 1)) (k : W p l e R s m args below meth c H locs 0 0 Q (F0 m (pc + 1) ls (.int (J (a * b)) :: rest))) : W p l e R s m args below meth c H locs 0 0 Q (F0 m pc ls (.int (J b) :: .int (J a) :: rest)) := lv_imul C.1.1 C.1.2.1 hdg (by rw [J_mul]; exact k)
theorem j_ineg (C : XC p s m args meth c cc nL own ret D cA A) {a : Int} (hdg : decode cc pc = .ok (.ineg, 1)) (k : W p l e R s m args below meth c H locs 0 0 Q (F0 m (pc + 1) ls (.int (J (-a)) :: rest))) : W p l e R s m args below meth c H locs 0 0 Q (F0 m pc ls (.int (J a) :: rest)) := lv_ineg C.1.1 C.1.2.1 hdg (by rw [J_neg]; exact k)
theorem j_iand (C : XC p s m args meth c cc nL own ret D cA A) {a b : Int} (hdg : decode cc pc = .ok (.iand, 1)) (k : W p l e R s m args below meth c H locs 0 0 Q (F0 m (pc + 1) ls (.int (J (jand a b)) :: rest))) : W p l e R s m args below meth c H locs 0 0 Q (F0 m pc ls (.int (J b) :: .int (J a) :: rest)) := lv_iand C.1.1 C.1.2.1 hdg (by rw [jand, J_of] at k; exact k)
theorem j_ior (C : XC p s m args meth c cc nL own ret D cA A) {a b : Int} (hdg : decode cc pc = .ok (.ior, 1)) (k : W p l e R s m args below meth c H locs 0 0 Q (F0 m (pc + 1) ls (.int (J (jor a b)) :: rest))) : W p l e R s m args below meth c H locs 0 0 Q (F0 m pc ls (.int (J b) :: .int (J a) :: rest)) := lv_ior C.1.1 C.1.2.1 hdg (by rw [jor, J_of] at k; exact k)
theorem j_ixor (C : XC p s m args meth c cc nL own ret D cA A) {a b : Int} (hdg : decode cc pc = .ok (.ixor, 1)) (k : W p l e R s m args below meth c H locs 0 0 Q (F0 m (pc + 1) ls (.int (J (jxor a b)) :: rest))) : W p l e R s m args below meth c H locs 0 0 Q (F0 m pc ls (.int (J b) :: .int (J a) :: rest)) := lv_ixor C.1.1 C.1.2.1 hdg (by rw [jxor, J_of] at k; exact k)
theorem j_ishl (C : XC p s m args meth c cc nL own ret D cA A) {a b : Int} (hdg : decode cc pc = .ok (.ishl, 1)) (k : W p l e R s m args below meth c H locs 0 0 Q (F0 m (pc + 1) ls (.int (J (jshl a b)) :: rest))) : W p l e R s m args below meth c H locs 0 0 Q (F0 m pc ls (.int (J b) :: .int (J a) :: rest)) := lv_ishl C.1.1 C.1.2.1 hdg (by rw [jshl, J_of] at k; exact k)
theorem j_ishr (C : XC p s m args meth c cc nL own ret D cA A) {a b : Int} (hdg : decode cc pc = .ok (.ishr, 1)) (k : W p l e R s m args below meth c H locs 0 0 Q (F0 m (pc + 1) ls (.int (J (jshr a b)) :: rest))) : W p l e R s m args below meth c H locs 0 0 Q (F0 m pc ls (.int (J b) :: .int (J a) :: rest)) := lv_ishr C.1.1 C.1.2.1 hdg (by rw [jshr, J_of] at k; exact k)
theorem j_iushr (C : XC p s m args meth c cc nL own ret D cA A) {a b : Int} (hdg : decode cc pc = .ok (.iushr, 1)) (k : W p l e R s m args below meth c H locs 0 0 Q (F0 m (pc + 1) ls (.int (J (jushr a b)) :: rest))) : W p l e R s m args below meth c H locs 0 0 Q (F0 m pc ls (.int (J b) :: .int (J a) :: rest)) := lv_iushr C.1.1 C.1.2.1 hdg rfl (by rw [jushr, J_of] at k; exact k)
theorem j_idiv (C : XC p s m args meth c cc nL own ret D cA A) {a b : Int} (hne : ¬ J b = 0) (hdg : decode cc pc = .ok (.idiv, 1)) (k : W p l e R s m args below meth c H locs 0 0 Q (F0 m (pc + 1) ls (.int (J (jdiv a b)) :: rest))) : W p l e R s m args below meth c H locs 0 0 Q (F0 m pc ls (.int (J b) :: .int (J a) :: rest)) := lv_idiv C.1.1 C.1.2.1 hdg hne (by rw [jdiv, J_of] at k; exact k)
theorem j_irem (C : XC p s m args meth c cc nL own ret D cA A) {a b : Int} (hne : ¬ J b = 0) (hdg : decode cc pc = .ok (.irem, 1)) (k : W p l e R s m args below meth c H locs 0 0 Q (F0 m (pc + 1) ls (.int (J (jrem a b)) :: rest))) : W p l e R s m args below meth c H locs 0 0 Q (F0 m pc ls (.int (J b) :: .int (J a) :: rest)) := lv_irem C.1.1 C.1.2.1 hdg hne (by rw [jrem, J_of] at k; exact k)
theorem j_dup (C : XC p s m args meth c cc nL own ret D cA A) {va : Value} (hva : va.category = 1) (hdg : decode cc pc = .ok (.dup, 1)) (k : W p l e R s m args below meth c H locs 0 0 Q (F0 m (pc + 1) ls (va :: va :: rest))) : W p l e R s m args below meth c H locs 0 0 Q (F0 m pc ls (va :: rest)) := lv_dup C.1.1 C.1.2.1 hdg hva k
theorem j_dup2 (C : XC p s m args meth c cc nL own ret D cA A) {va vb : Value} (hva : va.category = 1) (hvb : vb.category = 1) (hdg : decode cc pc = .ok (.dup2, 1)) (k : W p l e R s m args below meth c H locs 0 0 Q (F0 m (pc + 1) ls (va :: vb :: va :: vb :: rest))) : W p l e R s m args below meth c H locs 0 0 Q (F0 m pc ls (va :: vb :: rest)) := lv_dup2_11 C.1.1 C.1.2.1 hdg hva hvb k
theorem j_goto (C : XC p s m args meth c cc nL own ret D cA A) {off : Int} (tgt : Nat) (hdg : decode cc pc = .ok (.goto off, 3)) (ht : (pc : Int) + off = (tgt : Int)) (k : W p l e R s m args below meth c H locs 0 0 Q (F0 m tgt ls rest)) : W p l e R s m args below meth c H locs 0 0 Q (F0 m pc ls rest) := lv_goto C.1.1 C.1.2.1 hdg ht k
theorem j_if_eq (C : XC p s m args meth c cc nL own ret D cA A) {a : Int} {off : Int} (tgt : Nat) (ha : jR a) (hdg : decode cc pc = .ok (.ifCond .eq off, 3)) (ht : (pc : Int) + off = (tgt : Int)) (kt : a = 0 → W p l e R s m args below meth c H locs 0 0 Q (F0 m tgt ls rest)) (kf : ¬ a = 0 → W p l e R s m args below meth c H locs 0 0 Q (F0 m (pc + 3) ls rest)) : W p l e R s m args below meth c H locs 0 0 Q (F0 m pc ls (.int (J a) :: rest)) := lv_if_eq C.1.1 C.1.2.1 hdg ht (fun h => kt ((J_eq0 ha).mp h)) (fun h => kf (fun q => h ((J_eq0 ha).mpr q)))
theorem j_if_ne (C : XC p s m args meth c cc nL own ret D cA A) {a : Int} {off : Int} (tgt : Nat) (ha : jR a) (hdg : decode cc pc = .ok (.ifCond .ne off, 3)) (ht : (pc : Int) + off = (tgt : Int)) (kt : ¬ a = 0 → W p l e R s m args below meth c H locs 0 0 Q (F0 m tgt ls rest)) (kf : a = 0 → W p l e R s m args below meth c H locs 0 0 Q (F0 m (pc + 3) ls rest)) : W p l e R s m args below meth c H locs 0 0 Q (F0 m pc ls (.int (J a) :: rest)) := lv_if_ne C.1.1 C.1.2.1 hdg ht (fun h => kt (fun q => h ((J_eq0 ha).mpr q))) (fun h => kf ((J_eq0 ha).mp h))
theorem j_if_lt (C : XC p s m args meth c cc nL own ret D cA A) {a : Int} {off : Int} (tgt : Nat) (ha : jR a) (hdg : decode cc pc = .ok (.ifCond .lt off, 3)) (ht : (pc : Int) + off = (tgt : Int)) (kt : a < 0 → W p l e R s m args below meth c H locs 0 0 Q (F0 m tgt ls rest)) (kf : ¬ a < 0 → W p l e R s m args below meth c H locs 0 0 Q (F0 m (pc + 3) ls rest)) : W p l e R s m args below meth c H locs 0 0 Q (F0 m pc ls (.int (J a) :: rest)) := lv_if_lt C.1.1 C.1.2.1 hdg ht (fun h => kt ((J_lt0 ha).mp h)) (fun h => kf (fun q => h ((J_lt0 ha).mpr q)))
theorem j_if_ge (C : XC p s m args meth c cc nL own ret D cA A) {a : Int} {off : Int} (tgt : Nat) (ha : jR a) (hdg : decode cc pc = .ok (.ifCond .ge off, 3)) (ht : (pc : Int) + off = (tgt : Int)) (kt : 0 ≤ a → W p l e R s m args below meth c H locs 0 0 Q (F0 m tgt ls rest)) (kf : ¬ 0 ≤ a → W p l e R s m args below meth c H locs 0 0 Q (F0 m (pc + 3) ls rest)) : W p l e R s m args below meth c H locs 0 0 Q (F0 m pc ls (.int (J a) :: rest)) := lv_if_ge C.1.1 C.1.2.1 hdg ht (fun h => kt ((J_0le ha).mp h)) (fun h => kf (fun q => h ((J_0le ha).mpr q)))
theorem j_if_gt (C : XC p s m args meth c cc nL own ret D cA A) {a : Int} {off : Int} (tgt : Nat) (ha : jR a) (hdg : decode cc pc = .ok (.ifCond .gt off, 3)) (ht : (pc : Int) + off = (tgt : Int)) (kt : 0 < a → W p l e R s m args below meth c H locs 0 0 Q (F0 m tgt ls rest)) (kf : ¬ 0 < a → W p l e R s m args below meth c H locs 0 0 Q (F0 m (pc + 3) ls rest)) : W p l e R s m args below meth c H locs 0 0 Q (F0 m pc ls (.int (J a) :: rest)) := lv_if_gt C.1.1 C.1.2.1 hdg ht (fun h => kt ((J_0lt ha).mp h)) (fun h => kf (fun q => h ((J_0lt ha).mpr q)))
theorem j_if_le (C : XC p s m args meth c cc nL own ret D cA A) {a : Int} {off : Int} (tgt : Nat) (ha : jR a) (hdg : decode cc pc = .ok (.ifCond .le off, 3)) (ht : (pc : Int) + off = (tgt : Int)) (kt : a ≤ 0 → W p l e R s m args below meth c H locs 0 0 Q (F0 m tgt ls rest)) (kf : ¬ a ≤ 0 → W p l e R s m args below meth c H locs 0 0 Q (F0 m (pc + 3) ls rest)) : W p l e R s m args below meth c H locs 0 0 Q (F0 m pc ls (.int (J a) :: rest)) := lv_if_le C.1.1 C.1.2.1 hdg ht (fun h => kt ((J_le0 ha).mp h)) (fun h => kf (fun q => h ((J_le0 ha).mpr q)))
theorem j_icmp_eq (C : XC p s m args meth c cc nL own ret D cA A) {a b : Int} {off : Int} (tgt : Nat) (ha : jR a) (hb : jR b) (hdg : decode cc pc = .ok (.if_icmp .eq off, 3)) (ht : (pc : Int) + off = (tgt : Int)) (kt : a = b → W p l e R s m args below meth c H locs 0 0 Q (F0 m tgt ls rest)) (kf : ¬ a = b → W p l e R s m args below meth c H locs 0 0 Q (F0 m (pc + 3) ls rest)) : W p l e R s m args below meth c H locs 0 0 Q (F0 m pc ls (.int (J b) :: .int (J a) :: rest)) := lv_icmp_eq C.1.1 C.1.2.1 hdg ht (fun h => kt ((J_eq ha hb).mp h)) (fun h => kf (fun q => h ((J_eq ha hb).mpr q)))
theorem j_icmp_ne (C : XC p s m args meth c cc nL own ret D cA A) {a b : Int} {off : Int} (tgt : Nat) (ha : jR a) (hb : jR b) (hdg : decode cc pc = .ok (.if_icmp .ne off, 3)) (ht : (pc : Int) + off = (tgt : Int)) (kt : ¬ a = b → W p l e R s m args below meth c H locs 0 0 Q (F0 m tgt ls rest)) (kf : a = b → W p l e R s m args below meth c H locs 0 0 Q (F0 m (pc + 3) ls rest)) : W p l e R s m args below meth c H locs 0 0 Q (F0 m pc ls (.int (J b) :: .int (J a) :: rest)) := lv_icmp_ne C.1.1 C.1.2.1 hdg ht (fun h => kt (fun q => h ((J_eq ha hb).mpr q))) (fun h => kf ((J_eq ha hb).mp h))
theorem j_icmp_lt (C : XC p s m args meth c cc nL own ret D cA A) {a b : Int} {off : Int} (tgt : Nat) (ha : jR a) (hb : jR b) (hdg : decode cc pc = .ok (.if_icmp .lt off, 3)) (ht : (pc : Int) + off = (tgt : Int)) (kt : a < b → W p l e R s m args below meth c H locs 0 0 Q (F0 m tgt ls rest)) (kf : ¬ a < b → W p l e R s m args below meth c H locs 0 0 Q (F0 m (pc + 3) ls rest)) : W p l e R s m args below meth c H locs 0 0 Q (F0 m pc ls (.int (J b) :: .int (J a) :: rest)) := lv_icmp_lt C.1.1 C.1.2.1 hdg ht (fun h => kt ((J_lt ha hb).mp h)) (fun h => kf (fun q => h ((J_lt ha hb).mpr q)))
theorem j_icmp_ge (C : XC p s m args meth c cc nL own ret D cA A) {a b : Int} {off : Int} (tgt : Nat) (ha : jR a) (hb : jR b) (hdg : decode cc pc = .ok (.if_icmp .ge off, 3)) (ht : (pc : Int) + off = (tgt : Int)) (kt : b ≤ a → W p l e R s m args below meth c H locs 0 0 Q (F0 m tgt ls rest)) (kf : ¬ b ≤ a → W p l e R s m args below meth c H locs 0 0 Q (F0 m (pc + 3) ls rest)) : W p l e R s m args below meth c H locs 0 0 Q (F0 m pc ls (.int (J b) :: .int (J a) :: rest)) := lv_icmp_ge C.1.1 C.1.2.1 hdg ht (fun h => kt ((J_le hb ha).mp h)) (fun h => kf (fun q => h ((J_le hb ha).mpr q)))
theorem j_icmp_gt (C : XC p s m args meth c cc nL own ret D cA A) {a b : Int} {off : Int} (tgt : Nat) (ha : jR a) (hb : jR b) (hdg : decode cc pc = .ok (.if_icmp .gt off, 3)) (ht : (pc : Int) + off = (tgt : Int)) (kt : b < a → W p l e R s m args below meth c H locs 0 0 Q (F0 m tgt ls rest)) (kf : ¬ b < a → W p l e R s m args below meth c H locs 0 0 Q (F0 m (pc + 3) ls rest)) : W p l e R s m args below meth c H locs 0 0 Q (F0 m pc ls (.int (J b) :: .int (J a) :: rest)) := lv_icmp_gt C.1.1 C.1.2.1 hdg ht (fun h => kt ((J_lt hb ha).mp h)) (fun h => kf (fun q => h ((J_lt hb ha).mpr q)))
theorem j_icmp_le (C : XC p s m args meth c cc nL own ret D cA A) {a b : Int} {off : Int} (tgt : Nat) (ha : jR a) (hb : jR b) (hdg : decode cc pc = .ok (.if_icmp .le off, 3)) (ht : (pc : Int) + off = (tgt : Int)) (kt : a ≤ b → W p l e R s m args below meth c H locs 0 0 Q (F0 m tgt ls rest)) (kf : ¬ a ≤ b → W p l e R s m args below meth c H locs 0 0 Q (F0 m (pc + 3) ls rest)) : W p l e R s m args below meth c H locs 0 0 Q (F0 m pc ls (.int (J b) :: .int (J a) :: rest)) := lv_icmp_le C.1.1 C.1.2.1 hdg ht (fun h => kt ((J_le ha hb).mp h)) (fun h => kf (fun q => h ((J_le ha hb).mpr q)))
theorem j_tableIn (C : XC p s m args meth c cc nL own ret D cA A) {dflt lo hi : Int} {offs : Array Int} {len : Nat} {x : Int} {off : Int} (tgt : Nat) (hR : jR x) (hdg : decode cc pc = .ok (.tableswitch dflt lo hi offs, len)) (h1 : ¬ x < lo) (h2 : ¬ hi < x) (ho : offs[(x - lo).toNat]? = some off) (ht : (pc : Int) + off = (tgt : Int)) (k : W p l e R s m args below meth c H locs 0 0 Q (F0 m tgt ls rest)) : W p l e R s m args below meth c H locs 0 0 Q (F0 m pc ls (.int (J x) :: rest)) := lv_tableIn C.1.1 C.1.2.1 hdg (by rw [J_toInt hR]; exact h1) (by rw [J_toInt hR]; exact h2) (by rw [J_toInt hR]; exact ho) ht k
theorem j_tableOut (C : XC p s m args meth c cc nL own ret D cA A) {dflt lo hi : Int} {offs : Array Int} {len : Nat} {x : Int} (tgt : Nat) (hR : jR x) (hdg : decode cc pc = .ok (.tableswitch dflt lo hi offs, len)) (h : x < lo ∨ hi < x) (ht : (pc : Int) + dflt = (tgt : Int)) (k : W p l e R s m args below meth c H locs 0 0 Q (F0 m tgt ls rest)) : W p l e R s m args below meth c H locs 0 0 Q (F0 m pc ls (.int (J x) :: rest)) := lv_tableOut C.1.1 C.1.2.1 hdg (by rw [J_toInt hR]; exact h) ht k
theorem j_lookup (C : XC p s m args meth c cc nL own ret D cA A) {dflt : Int} {ps : Array (Int × Int)} {len : Nat} {x : Int} {off : Int} (tgt : Nat) (hR : jR x) (hdg : decode cc pc = .ok (.lookupswitch dflt ps, len)) (hp : (ps.toList.zip (ps.toList.drop 1)).all (fun (a, next) => a.1 < next.1) = true) (ho : Op.lookupswitch.offset ps.toList dflt x = off) (ht : (pc : Int) + off = (tgt : Int)) (k : W p l e R s m args below meth c H locs 0 0 Q (F0 m tgt ls rest)) : W p l e R s m args below meth c H locs 0 0 Q (F0 m pc ls (.int (J x) :: rest)) := lv_lookup C.1.1 C.1.2.1 hdg hp (by rw [J_toInt hR]; exact ho) ht k
theorem j_mmax (C : XC p s m args meth c cc nL own ret D cA A) (hls : ls.size = nL) {index : Nat} (hl : Cond.methodLink own index Lib.Math.max.name ∈ lw_ok) (hR : 1 ≤ R.frames ∧ (rest.map fun v => v.category).sum + 13 ≤ R.locals) {a b : Int} (hdg : decode cc pc = .ok (.invokestatic index, 3)) (k : W p l e R s m args below meth c H locs 0 0 Q (F0 m (pc + 3) ls (.int (J (jmax a b)) :: rest))) : W p l e R s m args below meth c H locs 0 0 Q (F0 m pc ls (.int (J b) :: .int (J a) :: rest)) := by
  obtain ⟨hx, hb, hml, hown, hts⟩ := C.1
  refine va_mmax hx hb (hml.trans hls.symm) hown (hts _ hl) (hts _ wt_J9_max_7cf53) (hts _ wi_J9) (hts _ wc_J9_max_7cf53) hR.1 hR.2 (Nat.zero_le _) (Nat.zero_le _) hdg ?_
  have e : (if J a < J b then J b else J a) = J (jmax a b) := by
    unfold jmax
    by_cases h : J a < J b
    · rw [if_pos h, if_pos h]
    · rw [if_neg h, if_neg h]
  rw [e]
  exact k
theorem j_mmin (C : XC p s m args meth c cc nL own ret D cA A) (hls : ls.size = nL) {index : Nat} (hl : Cond.methodLink own index Lib.Math.min.name ∈ lw_ok) (hR : 1 ≤ R.frames ∧ (rest.map fun v => v.category).sum + 13 ≤ R.locals) {a b : Int} (hdg : decode cc pc = .ok (.invokestatic index, 3)) (k : W p l e R s m args below meth c H locs 0 0 Q (F0 m (pc + 3) ls (.int (J (jmin a b)) :: rest))) : W p l e R s m args below meth c H locs 0 0 Q (F0 m pc ls (.int (J b) :: .int (J a) :: rest)) := by
  obtain ⟨hx, hb, hml, hown, hts⟩ := C.1
  refine va_mmin hx hb (hml.trans hls.symm) hown (hts _ hl) (hts _ wt_J9_min_7cf53) (hts _ wi_J9) (hts _ wc_J9_min_7cf53) hR.1 hR.2 (Nat.zero_le _) (Nat.zero_le _) hdg ?_
  have e : (if J b < J a then J b else J a) = J (jmin a b) := by
    unfold jmin
    by_cases h : J b < J a
    · rw [if_pos h, if_pos h]
    · rw [if_neg h, if_neg h]
  rw [e]
  exact k
theorem j_iald (C : XC p s m args meth c cc nL own ret D cA A) (hH : XH D A s ws H locs) (q0 : Nat) {a n : Nat} {f : Nat → Int} (ha : ws[q0]? = some (a, .inl (cA, n, .inl (jf f)))) (hn : n < 2147483648) {i : Int} (hi : 0 ≤ i ∧ i < n) (hdg : decode cc pc = .ok (.iaload, 1)) (k : W p l e R s m args below meth c H locs 0 0 Q (F0 m (pc + 1) ls (.int (J (f i.toNat)) :: rest))) : W p l e R s m args below meth c H locs 0 0 Q (F0 m pc ls (.int (J i) :: .ref a :: rest)) := by
  obtain ⟨h1, h2⟩ := jin hi hn
  refine va_iald C.1.1 C.1.2.1 C.2.2.2.1 hH.1 q0 0 ha rfl h1 hdg ?_
  rw [h2]
  exact k
theorem j_iast (C : XC p s m args meth c cc nL own ret D cA A) (hH : XH D A s ws H locs) (q0 : Nat) {a n : Nat} {f : Nat → Int} (ha : ws[q0]? = some (a, .inl (cA, n, .inl (jf f)))) (hn : n < 2147483648) {i x : Int} (hi : 0 ≤ i ∧ i < n) (hdg : decode cc pc = .ok (.iastore, 1)) (k : ∀ (H1 : Heap) (locs1 : List Loc), XH D A s (ws.set q0 (a, .inl (cA, n, .inl (jf (up f i.toNat x))))) H1 locs1 → W p l e R s m args below meth c H1 locs1 0 0 Q (F0 m (pc + 1) ls rest)) : W p l e R s m args below meth c H locs 0 0 Q (F0 m pc ls (.int (J x) :: .int (J i) :: .ref a :: rest)) := by
  obtain ⟨h1, h2⟩ := jin hi hn
  refine va_iast C.1.1 C.1.2.1 C.2.2.2.1 hH.1 hH.2.1 hH.2.2 q0 0 ha rfl h1 hdg (fun H1 locs1 hP hD hS => ?_)
  rw [h2, jf_up] at hP hD
  exact k H1 locs1 ⟨hP, hD, hS⟩
theorem j_alen (C : XC p s m args meth c cc nL own ret D cA A) (hH : XH D A s ws H locs) (q0 : Nat) {a n : Nat} {f : Nat → Int} (ha : ws[q0]? = some (a, .inl (cA, n, .inl (jf f)))) (hdg : decode cc pc = .ok (.arraylength, 1)) (k : W p l e R s m args below meth c H locs 0 0 Q (F0 m (pc + 1) ls (.int (J (n : Int)) :: rest))) : W p l e R s m args below meth c H locs 0 0 Q (F0 m pc ls (.ref a :: rest)) :=
  va_alen C.1.1 C.1.2.1 C.2.2.2.1 hH.1 q0 0 ha rfl (v := J (n : Int)) rfl hdg k
theorem j_get (C : XC p s m args meth c cc nL own ret D cA A) (hH : XH D A s ws H locs) {ref Cn : String} {T : u_T} {N ci index : Nat} (hin : ∀ w ∈ u_ws Cn T N, w ∈ lw_ok) (q0 : Nat) {a : Nat} {fs : List Value} (he : ws[q0]? = some (a, .inr (ci, fs))) (hc : vwCl[ci]? = some (Cn, T, N)) (k : Nat) (hk : k < N) (hlink : Cond.fieldLink own index ref (T k).2.1 (T k).2.2.1 ∈ lw_ok) (hsame : (T k).1 = ref) {v : Value} (hv : fs[k]? = some v) (hdg : decode cc pc = .ok (.getfield index, 3)) (kk : W p l e R s m args below meth c H locs 0 0 Q (F0 m (pc + 3) ls (v :: rest))) : W p l e R s m args below meth c H locs 0 0 Q (F0 m pc ls (.ref a :: rest)) :=
  va_get C.1.1 C.1.2.1 C.1.2.2.2.2 hin C.1.2.2.2.1 C.2.2.2.1 hH.1 q0 he hc k hk (C.1.2.2.2.2 _ hlink) (fun x hx => by rw [← hsame]; exact hx) hv hdg kk
theorem j_put (C : XC p s m args meth c cc nL own ret D cA A) (hH : XH D A s ws H locs) {ref Cn : String} {T : u_T} {N ci index : Nat} (hin : ∀ w ∈ u_ws Cn T N, w ∈ lw_ok) (ty0 : Nat → FieldType) (hty : ∀ k, k < N → parseFieldDescriptor (T k).2.2.1 = some (ty0 k)) (hnm : ∀ a, a < N → ∀ b, b < N → a ≠ b → (T a).2.1 ≠ (T b).2.1) (q0 : Nat) {a : Nat} {fs : List Value} (he : ws[q0]? = some (a, .inr (ci, fs))) (hc : vwCl[ci]? = some (Cn, T, N)) (k : Nat) (hk : k < N) (hlink : Cond.fieldLink own index ref (T k).2.1 (T k).2.2.1 ∈ lw_ok) (hsame : (T k).1 = ref) (hfin : (T k).2.2.2 = false) {ty : FieldType} {v : Value} (hd : parseFieldDescriptor (T k).2.2.1 = some ty) (hn : narrow ty v = v) (hfit : fits ty v = true) (hl : k < fs.length) (hdg : decode cc pc = .ok (.putfield index, 3)) (kk : ∀ (H1 : Heap) (locs1 : List Loc), XH D A s (ws.set q0 (a, .inr (ci, fs.set k v))) H1 locs1 → W p l e R s m args below meth c H1 locs1 0 0 Q (F0 m (pc + 3) ls rest)) : W p l e R s m args below meth c H locs 0 0 Q (F0 m pc ls (v :: .ref a :: rest)) :=
  va_put C.1.1 C.1.2.1 C.1.2.2.2.2 hin ty0 hty hnm C.1.2.2.2.1 C.2.2.2.1 hH.1 hH.2.1 hH.2.2 q0 he hc k hk (C.1.2.2.2.2 _ hlink) (fun x hx => by rw [← hsame]; exact hx) hfin hd hn hfit hl hdg (fun H1 locs1 hP hD hS => kk H1 locs1 ⟨hP, hD, hS⟩)
theorem j_bool {z : Int} (h : z = 0 ∨ z = 1) : narrow .boolean (.int (J z)) = .int (J z) ∧ fits .boolean (.int (J z)) = true := by
  rcases h with h | h <;> subst h <;> decide +kernel
theorem j_iret (C : XC p s m args meth c cc nL own (some .int) D cA A) {post : Int32 → va_W → Prop} (hH : XH D A s ws H locs) {z : Int} (hq : post (J z) ws) (hdg : decode cc pc = .ok (.ireturn, 1)) : W p l e R s m args below meth c H locs 0 0 (MQ below (va_Qi post (xB D cA A) A) args s 0 0 A) (F0 m pc ls [.int (J z)]) :=
  W.iret C.1.1 C.1.2.1 C.2.1 (fun t ht hW => ⟨⟨J z, ws, rfl, hq, by rw [ht]; exact hH.1, va_K.moved hW.alike C.2.2.2.1, hH.2.1⟩, hH.2.2.F ht⟩) hH.2.2.2.2 hdg C.2.2.1
theorem j_zret (C : XC p s m args meth c cc nL own (some .boolean) D cA A) {post : Int32 → va_W → Prop} (hH : XH D A s ws H locs) {z : Int} (hz : z = 0 ∨ z = 1) (hq : post (J z) ws) (hdg : decode cc pc = .ok (.ireturn, 1)) : W p l e R s m args below meth c H locs 0 0 (MQ below (va_Qi post (xB D cA A) A) args s 0 0 A) (F0 m pc ls [.int (J z)]) :=
  W.zret C.1.1 C.1.2.1 C.2.1 (j_bool hz).1 (fun t ht hW => ⟨⟨J z, ws, rfl, hq, by rw [ht]; exact hH.1, va_K.moved hW.alike C.2.2.2.1, hH.2.1⟩, hH.2.2.F ht⟩) hH.2.2.2.2 hdg C.2.2.1
theorem j_vret (C : XC p s m args meth c cc nL own none D cA A) {post : va_W → Prop} (hH : XH D A s ws H locs) (hq : post ws) (hdg : decode cc pc = .ok (.return_, 1)) : W p l e R s m args below meth c H locs 0 0 (MQ below (va_Qv post (xB D cA A) A) args s 0 0 A) (F0 m pc ls []) :=
  W.vret C.1.1 C.1.2.1 C.2.1 (fun t ht hW => ⟨⟨ws, rfl, hq, by rw [ht]; exact hH.1, va_K.moved hW.alike C.2.2.2.1, hH.2.1⟩, hH.2.2.F ht⟩) hH.2.2.2.2 hdg C.2.2.1
/-- a call, and what stands behind it: of an instance method, of a static one; with an answer, without -/
theorem xcallV_i (C : XC p s m args meth c cc nL own ret D cA A) (hH : XH D A s ws H locs) {y : MethodName} {cb : ByteArray} {n2 k idx q0 ci b N : Nat} {ret2 : Option FieldType} {rm : Room} {post : Int32 → va_W → Prop} {As : List Value} {fs : List Value} {T : u_T} {st : List Value}
    (hM : ∀ sz, Met l y (.code y cb n2 ret2 :: lw_ok) rm (xPre D cA sz (.ref b :: As) ws) (va_Qi post (xB D cA (va_A ws sz)) (va_A ws sz)) 0 0 (va_A ws sz))
    (L : xLinkV own idx y cb n2 ret2 k) (hb : ws[q0]? = some (b, .inr (ci, fs))) (hc : vwCl[ci]? = some (y.cls, T, N)) (hrm : rm.cells = 0 ∧ rm.slots = 0) (hR : rm.frames + 1 ≤ R.frames ∧ 8 + (n2 + 11) + rm.locals ≤ R.locals) (hls : ls.size = nL) (hk : As.length = k) (hst : st = As.reverse ++ .ref b :: rest) (hroom : (rest.map fun v => v.category).sum ≤ 8) (hdg : decode cc pc = .ok (.invokevirtual idx, 3))
    (kk : ∀ (r : Int32) (w : va_W) (H1 : Heap) (locs1 : List Loc), post r w → XH D A s w H1 locs1 → W p l e R s m args below meth c H1 locs1 0 0 Q (F0 m (pc + 3) ls (.int r :: rest))) : W p l e R s m args below meth c H locs 0 0 Q (F0 m pc ls st) := by
  obtain ⟨hx, hb0, hml, hown, hts⟩ := id C.1
  obtain ⟨l1, l2, l3, l4, l5, l6⟩ := L
  have hFc := xA_in C.2.2.2.2 hH
  refine va_calli (va_runV (As := As) (rest := rest) C.1 (hM H.size) ⟨callB_of k hts (gIn l5) rfl hrm.1 hrm.2 (hts _ l4) (hts _ l1) l6 hR, hts _ l2, hts _ l3⟩ ⟨xPre_blind, va_recv C.2.2.2.1 hH.1 hc hb, fun U hU hW => xPre_at C.2.2.2.1 hH U hU hW⟩ rfl hk hls hst (lv_room hroom) hdg ⟨Nat.zero_le _, Nat.zero_le _⟩) hH.2.2 (fun q _ h => hFc q h) hFc (fun r w t H1 locs1 ht hvm hw hB hz1 hk1 hS => ?_)
  obtain ⟨hP1, hK1, hD1⟩ := hB
  rw [ht] at hP1
  exact kk r w H1 locs1 hw ⟨hP1, hD1.weaken (fun _ q _ h => hFc q.1 h), hS⟩
theorem xcallV_v (C : XC p s m args meth c cc nL own ret D cA A) (hH : XH D A s ws H locs) {y : MethodName} {cb : ByteArray} {n2 k idx q0 ci b N : Nat} {ret2 : Option FieldType} {rm : Room} {post : va_W → Prop} {As : List Value} {fs : List Value} {T : u_T} {st : List Value}
    (hM : ∀ sz, Met l y (.code y cb n2 ret2 :: lw_ok) rm (xPre D cA sz (.ref b :: As) ws) (va_Qv post (xB D cA (va_A ws sz)) (va_A ws sz)) 0 0 (va_A ws sz))
    (L : xLinkV own idx y cb n2 ret2 k) (hb : ws[q0]? = some (b, .inr (ci, fs))) (hc : vwCl[ci]? = some (y.cls, T, N)) (hrm : rm.cells = 0 ∧ rm.slots = 0) (hR : rm.frames + 1 ≤ R.frames ∧ 8 + (n2 + 11) + rm.locals ≤ R.locals) (hls : ls.size = nL) (hk : As.length = k) (hst : st = As.reverse ++ .ref b :: rest) (hroom : (rest.map fun v => v.category).sum ≤ 8) (hdg : decode cc pc = .ok (.invokevirtual idx, 3))
    (kk : ∀ (w : va_W) (H1 : Heap) (locs1 : List Loc), post w → XH D A s w H1 locs1 → W p l e R s m args below meth c H1 locs1 0 0 Q (F0 m (pc + 3) ls rest)) : W p l e R s m args below meth c H locs 0 0 Q (F0 m pc ls st) := by
  obtain ⟨hx, hb0, hml, hown, hts⟩ := id C.1
  obtain ⟨l1, l2, l3, l4, l5, l6⟩ := L
  have hFc := xA_in C.2.2.2.2 hH
  refine va_callv (va_runV (As := As) (rest := rest) C.1 (hM H.size) ⟨callB_of k hts (gIn l5) rfl hrm.1 hrm.2 (hts _ l4) (hts _ l1) l6 hR, hts _ l2, hts _ l3⟩ ⟨xPre_blind, va_recv C.2.2.2.1 hH.1 hc hb, fun U hU hW => xPre_at C.2.2.2.1 hH U hU hW⟩ rfl hk hls hst (lv_room hroom) hdg ⟨Nat.zero_le _, Nat.zero_le _⟩) hH.2.2 (fun q _ h => hFc q h) hFc (fun w t H1 locs1 ht hvm hw hB hz1 hk1 hS => ?_)
  obtain ⟨hP1, hK1, hD1⟩ := hB
  rw [ht] at hP1
  exact kk w H1 locs1 hw ⟨hP1, hD1.weaken (fun _ q _ h => hFc q.1 h), hS⟩
theorem xcallS_i (C : XC p s m args meth c cc nL own ret D cA A) (hH : XH D A s ws H locs) {y : MethodName} {cb : ByteArray} {n2 k idx : Nat} {ret2 : Option FieldType} {rm : Room} {post : Int32 → va_W → Prop} {As : List Value} {st : List Value}
    (hM : ∀ sz, Met l y (.code y cb n2 ret2 :: lw_ok) rm (xPre D cA sz As ws) (va_Qi post (xB D cA (va_A ws sz)) (va_A ws sz)) 0 0 (va_A ws sz))
    (L : xLinkS own idx y cb n2 ret2 k) (hrm : rm.cells = 0 ∧ rm.slots = 0) (hR : rm.frames + 1 ≤ R.frames ∧ 8 + (n2 + 11) + rm.locals ≤ R.locals) (hls : ls.size = nL) (hk : As.length = k) (hst : st = As.reverse ++ rest) (hroom : (rest.map fun v => v.category).sum ≤ 8) (hdg : decode cc pc = .ok (.invokestatic idx, 3))
    (kk : ∀ (r : Int32) (w : va_W) (H1 : Heap) (locs1 : List Loc), post r w → XH D A s w H1 locs1 → W p l e R s m args below meth c H1 locs1 0 0 Q (F0 m (pc + 3) ls (.int r :: rest))) : W p l e R s m args below meth c H locs 0 0 Q (F0 m pc ls st) := by
  obtain ⟨hx, hb0, hml, hown, hts⟩ := id C.1
  obtain ⟨l1, l2, l4, l5, l6⟩ := L
  have hFc := xA_in C.2.2.2.2 hH
  refine va_calli (va_runS (As := As) (rest := rest) C.1 (hM H.size) ⟨callB_of k hts (gIn l5) rfl hrm.1 hrm.2 (hts _ l4) (hts _ l1) l6 hR, hts _ l2⟩ ⟨xPre_blind, fun U hU hW => xPre_at C.2.2.2.1 hH U hU hW⟩ rfl hk hls hst (lv_room hroom) hdg ⟨Nat.zero_le _, Nat.zero_le _⟩) hH.2.2 (fun q _ h => hFc q h) hFc (fun r w t H1 locs1 ht hvm hw hB hz1 hk1 hS => ?_)
  obtain ⟨hP1, hK1, hD1⟩ := hB
  rw [ht] at hP1
  exact kk r w H1 locs1 hw ⟨hP1, hD1.weaken (fun _ q _ h => hFc q.1 h), hS⟩
theorem xcallS_v (C : XC p s m args meth c cc nL own ret D cA A) (hH : XH D A s ws H locs) {y : MethodName} {cb : ByteArray} {n2 k idx : Nat} {ret2 : Option FieldType} {rm : Room} {post : va_W → Prop} {As : List Value} {st : List Value}
    (hM : ∀ sz, Met l y (.code y cb n2 ret2 :: lw_ok) rm (xPre D cA sz As ws) (va_Qv post (xB D cA (va_A ws sz)) (va_A ws sz)) 0 0 (va_A ws sz))
    (L : xLinkS own idx y cb n2 ret2 k) (hrm : rm.cells = 0 ∧ rm.slots = 0) (hR : rm.frames + 1 ≤ R.frames ∧ 8 + (n2 + 11) + rm.locals ≤ R.locals) (hls : ls.size = nL) (hk : As.length = k) (hst : st = As.reverse ++ rest) (hroom : (rest.map fun v => v.category).sum ≤ 8) (hdg : decode cc pc = .ok (.invokestatic idx, 3))
    (kk : ∀ (w : va_W) (H1 : Heap) (locs1 : List Loc), post w → XH D A s w H1 locs1 → W p l e R s m args below meth c H1 locs1 0 0 Q (F0 m (pc + 3) ls rest)) : W p l e R s m args below meth c H locs 0 0 Q (F0 m pc ls st) := by
  obtain ⟨hx, hb0, hml, hown, hts⟩ := id C.1
  obtain ⟨l1, l2, l4, l5, l6⟩ := L
  have hFc := xA_in C.2.2.2.2 hH
  refine va_callv (va_runS (As := As) (rest := rest) C.1 (hM H.size) ⟨callB_of k hts (gIn l5) rfl hrm.1 hrm.2 (hts _ l4) (hts _ l1) l6 hR, hts _ l2⟩ ⟨xPre_blind, fun U hU hW => xPre_at C.2.2.2.1 hH U hU hW⟩ rfl hk hls hst (lv_room hroom) hdg ⟨Nat.zero_le _, Nat.zero_le _⟩) hH.2.2 (fun q _ h => hFc q h) hFc (fun w t H1 locs1 ht hvm hw hB hz1 hk1 hS => ?_)
  obtain ⟨hP1, hK1, hD1⟩ := hB
  rw [ht] at hP1
  exact kk w H1 locs1 hw ⟨hP1, hD1.weaken (fun _ q _ h => hFc q.1 h), hS⟩
end JR
/-- a method's contract out of its walk -/
theorem xmet_i {l : Launch} {y : MethodName} {cc : ByteArray} {nL sz : Nat} {ret : Option FieldType} {rm : Room} {D : va_G} {cA : ClassId} {av : List Value} {ws : va_W} {post : Int32 → va_W → Prop} (hy : plainName y.cls = true) (hn : (lg_sl av).length ≤ nL)
    (body : ∀ (p : Program) (e : Env) (s : State) (m : MethodId) (args : Array Value) (below : List Frame) (meth : Method) (c : Code) (A : Nat → Prop) (ls : Array Slot), XC p s m args meth c cc nL y.cls ret D cA A → XH D A s ws s.heap [] → lv_has ls nL (lv_args 0 av) → W p l e rm s m args below meth c s.heap [] 0 0 (MQ below (va_Qi post (xB D cA A) A) args s 0 0 A) (F0 m 0 ls [])) :
    Met l y (.code y cc nL ret :: lw_ok) rm (xPre D cA sz av ws) (va_Qi post (xB D cA (va_A ws sz)) (va_A ws sz)) 0 0 (va_A ws sz) := by
  refine Met.ofW (cc := cc) (maxL := nL) (ret := ret) hy rfl ?_
  intro p e s m args below meth c s₁ B hml hv
  obtain ⟨rfl, hsz, hP, hK, hD0⟩ := hv
  have hts := atoms_spec (ws := .code y cc nL ret :: lw_ok) B.pre
  have hown : s.vm.findClass y.cls = some m.cls := findClass_of_methodNamed B.named
  subst hsz
  rw [lg_entry_eq]
  exact body p e s m _ below meth c (va_A ws s.heap.size) _ ⟨⟨B.exec, B.bytes, hml, hown, fun w hw => hts w (List.mem_cons_of_mem _ hw)⟩, B.returns, B.notSynchronized, hK, fun q h => Or.inr h⟩ ⟨hP, hD0.self, va_S.rf⟩ (lv_entry av hn)
theorem xmet_v {l : Launch} {y : MethodName} {cc : ByteArray} {nL sz : Nat} {ret : Option FieldType} {rm : Room} {D : va_G} {cA : ClassId} {av : List Value} {ws : va_W} {post : va_W → Prop} (hy : plainName y.cls = true) (hn : (lg_sl av).length ≤ nL)
    (body : ∀ (p : Program) (e : Env) (s : State) (m : MethodId) (args : Array Value) (below : List Frame) (meth : Method) (c : Code) (A : Nat → Prop) (ls : Array Slot), XC p s m args meth c cc nL y.cls ret D cA A → XH D A s ws s.heap [] → lv_has ls nL (lv_args 0 av) → W p l e rm s m args below meth c s.heap [] 0 0 (MQ below (va_Qv post (xB D cA A) A) args s 0 0 A) (F0 m 0 ls [])) :
    Met l y (.code y cc nL ret :: lw_ok) rm (xPre D cA sz av ws) (va_Qv post (xB D cA (va_A ws sz)) (va_A ws sz)) 0 0 (va_A ws sz) := by
  refine Met.ofW (cc := cc) (maxL := nL) (ret := ret) hy rfl ?_
  intro p e s m args below meth c s₁ B hml hv
  obtain ⟨rfl, hsz, hP, hK, hD0⟩ := hv
  have hts := atoms_spec (ws := .code y cc nL ret :: lw_ok) B.pre
  have hown : s.vm.findClass y.cls = some m.cls := findClass_of_methodNamed B.named
  subst hsz
  rw [lg_entry_eq]
  exact body p e s m _ below meth c (va_A ws s.heap.size) _ ⟨⟨B.exec, B.bytes, hml, hown, fun w hw => hts w (List.mem_cons_of_mem _ hw)⟩, B.returns, B.notSynchronized, hK, fun q h => Or.inr h⟩ ⟨hP, hD0.self, va_S.rf⟩ (lv_entry av hn)
end
