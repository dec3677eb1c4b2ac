section
-- ===== PART A: goes FIRST, ahead of the names: the tables' words, and 'selects' of the private methods out of them =====
/-- a private method of a class that the tables say can be made, by its rows of tables_1 -/
def lw_okq (q : MethodName × Nat) : Prop := (q.1.cls ≠ "java/lang/invoke/MethodHandle" ∧ q.1.cls ≠ "java/lang/invoke/VarHandle") ∧ Cond.instantiable q.1.cls q.2 ∈ tables_1 ∧ Cond.privateMethod q.1 ∈ tables_1 ∧ Cond.instanceMethod q.1 ∈ tables_1
theorem lw_p0 : lw_okq (⟨"RatsEat$Barn", "addBin", "(II)Z"⟩, 16) := ⟨⟨by decide +kernel, by decide +kernel⟩, List.mem_of_getElem? (i := 36) (by decide +kernel), List.mem_of_getElem? (i := 366) (by decide +kernel), List.mem_of_getElem? (i := 367) (by decide +kernel)⟩
theorem lw_p1 : lw_okq (⟨"RatsEat$Barn", "joinBins", "()V"⟩, 16) := ⟨⟨by decide +kernel, by decide +kernel⟩, List.mem_of_getElem? (i := 36) (by decide +kernel), List.mem_of_getElem? (i := 370) (by decide +kernel), List.mem_of_getElem? (i := 371) (by decide +kernel)⟩
theorem lw_p2 : lw_okq (⟨"RatsEat$Barn", "touch", "(II)Z"⟩, 16) := ⟨⟨by decide +kernel, by decide +kernel⟩, List.mem_of_getElem? (i := 36) (by decide +kernel), List.mem_of_getElem? (i := 374) (by decide +kernel), List.mem_of_getElem? (i := 375) (by decide +kernel)⟩
theorem lw_p3 : lw_okq (⟨"RatsEat$Barn", "hasWall", "(II)Z"⟩, 16) := ⟨⟨by decide +kernel, by decide +kernel⟩, List.mem_of_getElem? (i := 36) (by decide +kernel), List.mem_of_getElem? (i := 378) (by decide +kernel), List.mem_of_getElem? (i := 379) (by decide +kernel)⟩
theorem lw_p4 : lw_okq (⟨"RatsEat", "enterBarn", "()V"⟩, 18) := ⟨⟨by decide +kernel, by decide +kernel⟩, List.mem_of_getElem? (i := 16) (by decide +kernel), List.mem_of_getElem? (i := 388) (by decide +kernel), List.mem_of_getElem? (i := 389) (by decide +kernel)⟩
theorem lw_p5 : lw_okq (⟨"RatsEat$Reader", "readInto", "(LRatsEat$Barn;[BI)I"⟩, 1) := ⟨⟨by decide +kernel, by decide +kernel⟩, List.mem_of_getElem? (i := 24) (by decide +kernel), List.mem_of_getElem? (i := 468) (by decide +kernel), List.mem_of_getElem? (i := 469) (by decide +kernel)⟩
theorem lw_p6 : lw_okq (⟨"RatsEat$Barn", "clear", "()V"⟩, 16) := ⟨⟨by decide +kernel, by decide +kernel⟩, List.mem_of_getElem? (i := 36) (by decide +kernel), List.mem_of_getElem? (i := 472) (by decide +kernel), List.mem_of_getElem? (i := 473) (by decide +kernel)⟩
theorem lw_p7 : lw_okq (⟨"RatsEat$Reader", "behindItem", "([BII)I"⟩, 1) := ⟨⟨by decide +kernel, by decide +kernel⟩, List.mem_of_getElem? (i := 24) (by decide +kernel), List.mem_of_getElem? (i := 476) (by decide +kernel), List.mem_of_getElem? (i := 477) (by decide +kernel)⟩
theorem lw_p8 : lw_okq (⟨"RatsEat$Reader", "tell", "(LRatsEat$Barn;I)Z"⟩, 1) := ⟨⟨by decide +kernel, by decide +kernel⟩, List.mem_of_getElem? (i := 24) (by decide +kernel), List.mem_of_getElem? (i := 492) (by decide +kernel), List.mem_of_getElem? (i := 493) (by decide +kernel)⟩
theorem lw_p9 : lw_okq (⟨"RatsEat$Barn", "setKind", "(I)Z"⟩, 16) := ⟨⟨by decide +kernel, by decide +kernel⟩, List.mem_of_getElem? (i := 36) (by decide +kernel), List.mem_of_getElem? (i := 497) (by decide +kernel), List.mem_of_getElem? (i := 498) (by decide +kernel)⟩
theorem lw_p10 : lw_okq (⟨"RatsEat$Barn", "setRats", "(II)Z"⟩, 16) := ⟨⟨by decide +kernel, by decide +kernel⟩, List.mem_of_getElem? (i := 36) (by decide +kernel), List.mem_of_getElem? (i := 501) (by decide +kernel), List.mem_of_getElem? (i := 502) (by decide +kernel)⟩
theorem lw_p11 : lw_okq (⟨"RatsEat$Barn", "addWall", "(II)Z"⟩, 16) := ⟨⟨by decide +kernel, by decide +kernel⟩, List.mem_of_getElem? (i := 36) (by decide +kernel), List.mem_of_getElem? (i := 505) (by decide +kernel), List.mem_of_getElem? (i := 506) (by decide +kernel)⟩
theorem lw_p12 : lw_okq (⟨"RatsEat$Barn", "addCorn", "(II)Z"⟩, 16) := ⟨⟨by decide +kernel, by decide +kernel⟩, List.mem_of_getElem? (i := 36) (by decide +kernel), List.mem_of_getElem? (i := 509) (by decide +kernel), List.mem_of_getElem? (i := 510) (by decide +kernel)⟩
theorem lw_p13 : lw_okq (⟨"RatsEat", "isBin", "(I)Z"⟩, 18) := ⟨⟨by decide +kernel, by decide +kernel⟩, List.mem_of_getElem? (i := 16) (by decide +kernel), List.mem_of_getElem? (i := 522) (by decide +kernel), List.mem_of_getElem? (i := 523) (by decide +kernel)⟩
theorem lw_p14 : lw_okq (⟨"RatsEat$Nights", "run", "(I[IIII)I"⟩, 4) := ⟨⟨by decide +kernel, by decide +kernel⟩, List.mem_of_getElem? (i := 126) (by decide +kernel), List.mem_of_getElem? (i := 535) (by decide +kernel), List.mem_of_getElem? (i := 536) (by decide +kernel)⟩
theorem lw_p15 : lw_okq (⟨"RatsEat$Nights", "partOf", "(II)I"⟩, 4) := ⟨⟨by decide +kernel, by decide +kernel⟩, List.mem_of_getElem? (i := 126) (by decide +kernel), List.mem_of_getElem? (i := 539) (by decide +kernel), List.mem_of_getElem? (i := 540) (by decide +kernel)⟩
def lw_privs_1 : List (MethodName × Nat) := [(⟨"RatsEat$Barn", "addBin", "(II)Z"⟩, 16), (⟨"RatsEat$Barn", "joinBins", "()V"⟩, 16), (⟨"RatsEat$Barn", "touch", "(II)Z"⟩, 16), (⟨"RatsEat$Barn", "hasWall", "(II)Z"⟩, 16), (⟨"RatsEat", "enterBarn", "()V"⟩, 18), (⟨"RatsEat$Reader", "readInto", "(LRatsEat$Barn;[BI)I"⟩, 1), (⟨"RatsEat$Barn", "clear", "()V"⟩, 16), (⟨"RatsEat$Reader", "behindItem", "([BII)I"⟩, 1), (⟨"RatsEat$Reader", "tell", "(LRatsEat$Barn;I)Z"⟩, 1), (⟨"RatsEat$Barn", "setKind", "(I)Z"⟩, 16), (⟨"RatsEat$Barn", "setRats", "(II)Z"⟩, 16), (⟨"RatsEat$Barn", "addWall", "(II)Z"⟩, 16), (⟨"RatsEat$Barn", "addCorn", "(II)Z"⟩, 16), (⟨"RatsEat", "isBin", "(I)Z"⟩, 18), (⟨"RatsEat$Nights", "run", "(I[IIII)I"⟩, 4), (⟨"RatsEat$Nights", "partOf", "(II)I"⟩, 4)]
theorem lw_r1 : ∀ q ∈ lw_privs_1, lw_okq q := List.forall_mem_cons.mpr ⟨lw_p0, List.forall_mem_cons.mpr ⟨lw_p1, List.forall_mem_cons.mpr ⟨lw_p2, List.forall_mem_cons.mpr ⟨lw_p3, List.forall_mem_cons.mpr ⟨lw_p4, List.forall_mem_cons.mpr ⟨lw_p5, List.forall_mem_cons.mpr ⟨lw_p6, List.forall_mem_cons.mpr ⟨lw_p7, List.forall_mem_cons.mpr ⟨lw_p8, List.forall_mem_cons.mpr ⟨lw_p9, List.forall_mem_cons.mpr ⟨lw_p10, List.forall_mem_cons.mpr ⟨lw_p11, List.forall_mem_cons.mpr ⟨lw_p12, List.forall_mem_cons.mpr ⟨lw_p13, List.forall_mem_cons.mpr ⟨lw_p14, List.forall_mem_cons.mpr ⟨lw_p15, fun _ h => absurd h List.not_mem_nil⟩⟩⟩⟩⟩⟩⟩⟩⟩⟩⟩⟩⟩⟩⟩⟩
theorem lw_p16 : lw_okq (⟨"RatsEat$Nights", "pass", "([III)I"⟩, 4) := ⟨⟨by decide +kernel, by decide +kernel⟩, List.mem_of_getElem? (i := 126) (by decide +kernel), List.mem_of_getElem? (i := 543) (by decide +kernel), List.mem_of_getElem? (i := 544) (by decide +kernel)⟩
theorem lw_p17 : lw_okq (⟨"RatsEat$Nights", "wantByGaps", "([III)V"⟩, 4) := ⟨⟨by decide +kernel, by decide +kernel⟩, List.mem_of_getElem? (i := 126) (by decide +kernel), List.mem_of_getElem? (i := 547) (by decide +kernel), List.mem_of_getElem? (i := 548) (by decide +kernel)⟩
theorem lw_p18 : lw_okq (⟨"RatsEat$Nights", "goneFrom", "(I)I"⟩, 4) := ⟨⟨by decide +kernel, by decide +kernel⟩, List.mem_of_getElem? (i := 126) (by decide +kernel), List.mem_of_getElem? (i := 566) (by decide +kernel), List.mem_of_getElem? (i := 567) (by decide +kernel)⟩
theorem lw_p19 : lw_okq (⟨"RatsEat$Orders", "search", "([III)V"⟩, 6) := ⟨⟨by decide +kernel, by decide +kernel⟩, List.mem_of_getElem? (i := 148) (by decide +kernel), List.mem_of_getElem? (i := 575) (by decide +kernel), List.mem_of_getElem? (i := 576) (by decide +kernel)⟩
theorem lw_p20 : lw_okq (⟨"RatsEat$Orders", "sortRow", "()V"⟩, 6) := ⟨⟨by decide +kernel, by decide +kernel⟩, List.mem_of_getElem? (i := 148) (by decide +kernel), List.mem_of_getElem? (i := 580) (by decide +kernel), List.mem_of_getElem? (i := 581) (by decide +kernel)⟩
theorem lw_p21 : lw_okq (⟨"RatsEat$Orders", "nextOrder", "()Z"⟩, 6) := ⟨⟨by decide +kernel, by decide +kernel⟩, List.mem_of_getElem? (i := 148) (by decide +kernel), List.mem_of_getElem? (i := 590) (by decide +kernel), List.mem_of_getElem? (i := 591) (by decide +kernel)⟩
theorem lw_p22 : lw_okq (⟨"RatsEat$Changes", "findExchange", "([II)Z"⟩, 7) := ⟨⟨by decide +kernel, by decide +kernel⟩, List.mem_of_getElem? (i := 175) (by decide +kernel), List.mem_of_getElem? (i := 598) (by decide +kernel), List.mem_of_getElem? (i := 599) (by decide +kernel)⟩
theorem lw_p23 : lw_okq (⟨"RatsEat$Changes", "lossOfRow", "(II)I"⟩, 7) := ⟨⟨by decide +kernel, by decide +kernel⟩, List.mem_of_getElem? (i := 175) (by decide +kernel), List.mem_of_getElem? (i := 603) (by decide +kernel), List.mem_of_getElem? (i := 604) (by decide +kernel)⟩
theorem lw_p24 : lw_okq (⟨"RatsEat$PourSearch", "search", "([IIII)V"⟩, 10) := ⟨⟨by decide +kernel, by decide +kernel⟩, List.mem_of_getElem? (i := 206) (by decide +kernel), List.mem_of_getElem? (i := 615) (by decide +kernel), List.mem_of_getElem? (i := 616) (by decide +kernel)⟩
theorem lw_p25 : lw_okq (⟨"RatsEat$Pouring", "toNothing", "()V"⟩, 3) := ⟨⟨by decide +kernel, by decide +kernel⟩, List.mem_of_getElem? (i := 212) (by decide +kernel), List.mem_of_getElem? (i := 620) (by decide +kernel), List.mem_of_getElem? (i := 621) (by decide +kernel)⟩
theorem lw_p26 : lw_okq (⟨"RatsEat$Pouring", "fill", "([I[I)V"⟩, 3) := ⟨⟨by decide +kernel, by decide +kernel⟩, List.mem_of_getElem? (i := 212) (by decide +kernel), List.mem_of_getElem? (i := 624) (by decide +kernel), List.mem_of_getElem? (i := 625) (by decide +kernel)⟩
theorem lw_p27 : lw_okq (⟨"RatsEat$PourSearch", "leastTomorrow", "(II)I"⟩, 10) := ⟨⟨by decide +kernel, by decide +kernel⟩, List.mem_of_getElem? (i := 206) (by decide +kernel), List.mem_of_getElem? (i := 630) (by decide +kernel), List.mem_of_getElem? (i := 631) (by decide +kernel)⟩
theorem lw_p28 : lw_okq (⟨"RatsEat$Pouring", "toNext", "([III)Z"⟩, 3) := ⟨⟨by decide +kernel, by decide +kernel⟩, List.mem_of_getElem? (i := 212) (by decide +kernel), List.mem_of_getElem? (i := 635) (by decide +kernel), List.mem_of_getElem? (i := 636) (by decide +kernel)⟩
theorem lw_p29 : lw_okq (⟨"RatsEat$CornSearch", "search", "([II)Z"⟩, 8) := ⟨⟨by decide +kernel, by decide +kernel⟩, List.mem_of_getElem? (i := 266) (by decide +kernel), List.mem_of_getElem? (i := 644) (by decide +kernel), List.mem_of_getElem? (i := 645) (by decide +kernel)⟩
theorem lw_p30 : lw_okq (⟨"RatsEat$CornSearch", "goOn", "(III)V"⟩, 8) := ⟨⟨by decide +kernel, by decide +kernel⟩, List.mem_of_getElem? (i := 266) (by decide +kernel), List.mem_of_getElem? (i := 650) (by decide +kernel), List.mem_of_getElem? (i := 651) (by decide +kernel)⟩
theorem lw_p31 : lw_okq (⟨"RatsEat$CatSearch", "search", "([IIII)Z"⟩, 10) := ⟨⟨by decide +kernel, by decide +kernel⟩, List.mem_of_getElem? (i := 300) (by decide +kernel), List.mem_of_getElem? (i := 660) (by decide +kernel), List.mem_of_getElem? (i := 661) (by decide +kernel)⟩
def lw_privs_2 : List (MethodName × Nat) := [(⟨"RatsEat$Nights", "pass", "([III)I"⟩, 4), (⟨"RatsEat$Nights", "wantByGaps", "([III)V"⟩, 4), (⟨"RatsEat$Nights", "goneFrom", "(I)I"⟩, 4), (⟨"RatsEat$Orders", "search", "([III)V"⟩, 6), (⟨"RatsEat$Orders", "sortRow", "()V"⟩, 6), (⟨"RatsEat$Orders", "nextOrder", "()Z"⟩, 6), (⟨"RatsEat$Changes", "findExchange", "([II)Z"⟩, 7), (⟨"RatsEat$Changes", "lossOfRow", "(II)I"⟩, 7), (⟨"RatsEat$PourSearch", "search", "([IIII)V"⟩, 10), (⟨"RatsEat$Pouring", "toNothing", "()V"⟩, 3), (⟨"RatsEat$Pouring", "fill", "([I[I)V"⟩, 3), (⟨"RatsEat$PourSearch", "leastTomorrow", "(II)I"⟩, 10), (⟨"RatsEat$Pouring", "toNext", "([III)Z"⟩, 3), (⟨"RatsEat$CornSearch", "search", "([II)Z"⟩, 8), (⟨"RatsEat$CornSearch", "goOn", "(III)V"⟩, 8), (⟨"RatsEat$CatSearch", "search", "([IIII)Z"⟩, 10)]
theorem lw_r2 : ∀ q ∈ lw_privs_2, lw_okq q := List.forall_mem_cons.mpr ⟨lw_p16, List.forall_mem_cons.mpr ⟨lw_p17, List.forall_mem_cons.mpr ⟨lw_p18, List.forall_mem_cons.mpr ⟨lw_p19, List.forall_mem_cons.mpr ⟨lw_p20, List.forall_mem_cons.mpr ⟨lw_p21, List.forall_mem_cons.mpr ⟨lw_p22, List.forall_mem_cons.mpr ⟨lw_p23, List.forall_mem_cons.mpr ⟨lw_p24, List.forall_mem_cons.mpr ⟨lw_p25, List.forall_mem_cons.mpr ⟨lw_p26, List.forall_mem_cons.mpr ⟨lw_p27, List.forall_mem_cons.mpr ⟨lw_p28, List.forall_mem_cons.mpr ⟨lw_p29, List.forall_mem_cons.mpr ⟨lw_p30, List.forall_mem_cons.mpr ⟨lw_p31, fun _ h => absurd h List.not_mem_nil⟩⟩⟩⟩⟩⟩⟩⟩⟩⟩⟩⟩⟩⟩⟩⟩
theorem lw_p32 : lw_okq (⟨"RatsEat$CatSearch", "choose", "(II)V"⟩, 10) := ⟨⟨by decide +kernel, by decide +kernel⟩, List.mem_of_getElem? (i := 300) (by decide +kernel), List.mem_of_getElem? (i := 667) (by decide +kernel), List.mem_of_getElem? (i := 668) (by decide +kernel)⟩
theorem lw_p33 : lw_okq (⟨"RatsEat$CatSearch", "weigh", "()V"⟩, 10) := ⟨⟨by decide +kernel, by decide +kernel⟩, List.mem_of_getElem? (i := 300) (by decide +kernel), List.mem_of_getElem? (i := 671) (by decide +kernel), List.mem_of_getElem? (i := 672) (by decide +kernel)⟩
theorem lw_p34 : lw_okq (⟨"RatsEat$Changes", "settle", "([II)V"⟩, 7) := ⟨⟨by decide +kernel, by decide +kernel⟩, List.mem_of_getElem? (i := 175) (by decide +kernel), List.mem_of_getElem? (i := 681) (by decide +kernel), List.mem_of_getElem? (i := 682) (by decide +kernel)⟩
theorem lw_p35 : lw_okq (⟨"RatsEat$Changes", "changeBest", "(II)Z"⟩, 7) := ⟨⟨by decide +kernel, by decide +kernel⟩, List.mem_of_getElem? (i := 175) (by decide +kernel), List.mem_of_getElem? (i := 685) (by decide +kernel), List.mem_of_getElem? (i := 686) (by decide +kernel)⟩
theorem lw_p36 : lw_okq (⟨"RatsEat$Before", "search", "([III)V"⟩, 6) := ⟨⟨by decide +kernel, by decide +kernel⟩, List.mem_of_getElem? (i := 339) (by decide +kernel), List.mem_of_getElem? (i := 694) (by decide +kernel), List.mem_of_getElem? (i := 695) (by decide +kernel)⟩
theorem lw_p37 : lw_okq (⟨"RatsEat$Before", "startRow", "([II)Z"⟩, 6) := ⟨⟨by decide +kernel, by decide +kernel⟩, List.mem_of_getElem? (i := 339) (by decide +kernel), List.mem_of_getElem? (i := 698) (by decide +kernel), List.mem_of_getElem? (i := 699) (by decide +kernel)⟩
theorem lw_p38 : lw_okq (⟨"RatsEat$Before", "becomes", "([II)Z"⟩, 6) := ⟨⟨by decide +kernel, by decide +kernel⟩, List.mem_of_getElem? (i := 339) (by decide +kernel), List.mem_of_getElem? (i := 704) (by decide +kernel), List.mem_of_getElem? (i := 705) (by decide +kernel)⟩
theorem lw_p39 : lw_okq (⟨"RatsEat$Before", "nextRow", "([II)Z"⟩, 6) := ⟨⟨by decide +kernel, by decide +kernel⟩, List.mem_of_getElem? (i := 339) (by decide +kernel), List.mem_of_getElem? (i := 710) (by decide +kernel), List.mem_of_getElem? (i := 711) (by decide +kernel)⟩
theorem lw_p40 : lw_okq (⟨"RatsEat", "drawTrial", "(I)V"⟩, 18) := ⟨⟨by decide +kernel, by decide +kernel⟩, List.mem_of_getElem? (i := 16) (by decide +kernel), List.mem_of_getElem? (i := 722) (by decide +kernel), List.mem_of_getElem? (i := 723) (by decide +kernel)⟩
theorem lw_p41 : lw_okq (⟨"RatsEat", "sumOf", "([I)I"⟩, 18) := ⟨⟨by decide +kernel, by decide +kernel⟩, List.mem_of_getElem? (i := 16) (by decide +kernel), List.mem_of_getElem? (i := 734) (by decide +kernel), List.mem_of_getElem? (i := 735) (by decide +kernel)⟩
theorem lw_p42 : lw_okq (⟨"RatsEatModel", "begins", "()V"⟩, 30) := ⟨⟨by decide +kernel, by decide +kernel⟩, List.mem_of_getElem? (i := 750) (by decide +kernel), List.mem_of_getElem? (i := 756) (by decide +kernel), List.mem_of_getElem? (i := 757) (by decide +kernel)⟩
theorem lw_p43 : lw_okq (⟨"RatsEatModel", "takes", "()V"⟩, 30) := ⟨⟨by decide +kernel, by decide +kernel⟩, List.mem_of_getElem? (i := 750) (by decide +kernel), List.mem_of_getElem? (i := 760) (by decide +kernel), List.mem_of_getElem? (i := 761) (by decide +kernel)⟩
theorem lw_p44 : lw_okq (⟨"RatsEatModel", "touch", "(II)Z"⟩, 30) := ⟨⟨by decide +kernel, by decide +kernel⟩, List.mem_of_getElem? (i := 750) (by decide +kernel), List.mem_of_getElem? (i := 764) (by decide +kernel), List.mem_of_getElem? (i := 765) (by decide +kernel)⟩
theorem lw_p45 : lw_okq (⟨"RatsEatModel", "isShut", "(II)Z"⟩, 30) := ⟨⟨by decide +kernel, by decide +kernel⟩, List.mem_of_getElem? (i := 750) (by decide +kernel), List.mem_of_getElem? (i := 768) (by decide +kernel), List.mem_of_getElem? (i := 769) (by decide +kernel)⟩
theorem lw_p46 : lw_okq (⟨"RatsEatModel", "isItem", "()Z"⟩, 30) := ⟨⟨by decide +kernel, by decide +kernel⟩, List.mem_of_getElem? (i := 750) (by decide +kernel), List.mem_of_getElem? (i := 879) (by decide +kernel), List.mem_of_getElem? (i := 880) (by decide +kernel)⟩
theorem lw_p47 : lw_okq (⟨"RatsEatModel", "number", "()I"⟩, 30) := ⟨⟨by decide +kernel, by decide +kernel⟩, List.mem_of_getElem? (i := 750) (by decide +kernel), List.mem_of_getElem? (i := 886) (by decide +kernel), List.mem_of_getElem? (i := 887) (by decide +kernel)⟩
def lw_privs_3 : List (MethodName × Nat) := [(⟨"RatsEat$CatSearch", "choose", "(II)V"⟩, 10), (⟨"RatsEat$CatSearch", "weigh", "()V"⟩, 10), (⟨"RatsEat$Changes", "settle", "([II)V"⟩, 7), (⟨"RatsEat$Changes", "changeBest", "(II)Z"⟩, 7), (⟨"RatsEat$Before", "search", "([III)V"⟩, 6), (⟨"RatsEat$Before", "startRow", "([II)Z"⟩, 6), (⟨"RatsEat$Before", "becomes", "([II)Z"⟩, 6), (⟨"RatsEat$Before", "nextRow", "([II)Z"⟩, 6), (⟨"RatsEat", "drawTrial", "(I)V"⟩, 18), (⟨"RatsEat", "sumOf", "([I)I"⟩, 18), (⟨"RatsEatModel", "begins", "()V"⟩, 30), (⟨"RatsEatModel", "takes", "()V"⟩, 30), (⟨"RatsEatModel", "touch", "(II)Z"⟩, 30), (⟨"RatsEatModel", "isShut", "(II)Z"⟩, 30), (⟨"RatsEatModel", "isItem", "()Z"⟩, 30), (⟨"RatsEatModel", "number", "()I"⟩, 30)]
theorem lw_r3 : ∀ q ∈ lw_privs_3, lw_okq q := List.forall_mem_cons.mpr ⟨lw_p32, List.forall_mem_cons.mpr ⟨lw_p33, List.forall_mem_cons.mpr ⟨lw_p34, List.forall_mem_cons.mpr ⟨lw_p35, List.forall_mem_cons.mpr ⟨lw_p36, List.forall_mem_cons.mpr ⟨lw_p37, List.forall_mem_cons.mpr ⟨lw_p38, List.forall_mem_cons.mpr ⟨lw_p39, List.forall_mem_cons.mpr ⟨lw_p40, List.forall_mem_cons.mpr ⟨lw_p41, List.forall_mem_cons.mpr ⟨lw_p42, List.forall_mem_cons.mpr ⟨lw_p43, List.forall_mem_cons.mpr ⟨lw_p44, List.forall_mem_cons.mpr ⟨lw_p45, List.forall_mem_cons.mpr ⟨lw_p46, List.forall_mem_cons.mpr ⟨lw_p47, fun _ h => absurd h List.not_mem_nil⟩⟩⟩⟩⟩⟩⟩⟩⟩⟩⟩⟩⟩⟩⟩⟩
theorem lw_p48 : lw_okq (⟨"RatsEatModel", "isGood", "(I)Z"⟩, 30) := ⟨⟨by decide +kernel, by decide +kernel⟩, List.mem_of_getElem? (i := 750) (by decide +kernel), List.mem_of_getElem? (i := 893) (by decide +kernel), List.mem_of_getElem? (i := 894) (by decide +kernel)⟩
theorem lw_p49 : lw_okq (⟨"RatsEatModel", "isBin", "(I)Z"⟩, 30) := ⟨⟨by decide +kernel, by decide +kernel⟩, List.mem_of_getElem? (i := 750) (by decide +kernel), List.mem_of_getElem? (i := 910) (by decide +kernel), List.mem_of_getElem? (i := 911) (by decide +kernel)⟩
theorem lw_p50 : lw_okq (⟨"RatsEatModel", "tries", "()V"⟩, 30) := ⟨⟨by decide +kernel, by decide +kernel⟩, List.mem_of_getElem? (i := 750) (by decide +kernel), List.mem_of_getElem? (i := 922) (by decide +kernel), List.mem_of_getElem? (i := 923) (by decide +kernel)⟩
theorem lw_p51 : lw_okq (⟨"RatsEatModel", "goes", "(II)I"⟩, 30) := ⟨⟨by decide +kernel, by decide +kernel⟩, List.mem_of_getElem? (i := 750) (by decide +kernel), List.mem_of_getElem? (i := 926) (by decide +kernel), List.mem_of_getElem? (i := 927) (by decide +kernel)⟩
theorem lw_p52 : lw_okq (⟨"RatsEatModel", "eats", "(III)I"⟩, 30) := ⟨⟨by decide +kernel, by decide +kernel⟩, List.mem_of_getElem? (i := 750) (by decide +kernel), List.mem_of_getElem? (i := 930) (by decide +kernel), List.mem_of_getElem? (i := 931) (by decide +kernel)⟩
theorem lw_p53 : lw_okq (⟨"RatsEatModel", "nights", "(III)I"⟩, 30) := ⟨⟨by decide +kernel, by decide +kernel⟩, List.mem_of_getElem? (i := 750) (by decide +kernel), List.mem_of_getElem? (i := 945) (by decide +kernel), List.mem_of_getElem? (i := 946) (by decide +kernel)⟩
theorem lw_p54 : lw_okq (⟨"RatsEatModel", "swaps", "(II)V"⟩, 30) := ⟨⟨by decide +kernel, by decide +kernel⟩, List.mem_of_getElem? (i := 750) (by decide +kernel), List.mem_of_getElem? (i := 959) (by decide +kernel), List.mem_of_getElem? (i := 960) (by decide +kernel)⟩
theorem lw_p55 : lw_okq (⟨"RatsEatModel", "follows", "()Z"⟩, 30) := ⟨⟨by decide +kernel, by decide +kernel⟩, List.mem_of_getElem? (i := 750) (by decide +kernel), List.mem_of_getElem? (i := 963) (by decide +kernel), List.mem_of_getElem? (i := 964) (by decide +kernel)⟩
theorem lw_p56 : lw_okq (⟨"RatsEatModel", "lostBy", "(III)I"⟩, 30) := ⟨⟨by decide +kernel, by decide +kernel⟩, List.mem_of_getElem? (i := 750) (by decide +kernel), List.mem_of_getElem? (i := 971) (by decide +kernel), List.mem_of_getElem? (i := 972) (by decide +kernel)⟩
theorem lw_p57 : lw_okq (⟨"RatsEatModel", "changes", "(II)V"⟩, 30) := ⟨⟨by decide +kernel, by decide +kernel⟩, List.mem_of_getElem? (i := 750) (by decide +kernel), List.mem_of_getElem? (i := 975) (by decide +kernel), List.mem_of_getElem? (i := 976) (by decide +kernel)⟩
theorem lw_p58 : lw_okq (⟨"RatsEatModel", "isPoured", "(II)Z"⟩, 30) := ⟨⟨by decide +kernel, by decide +kernel⟩, List.mem_of_getElem? (i := 750) (by decide +kernel), List.mem_of_getElem? (i := 984) (by decide +kernel), List.mem_of_getElem? (i := 985) (by decide +kernel)⟩
theorem lw_p59 : lw_okq (⟨"RatsEatModel", "lostByCorn", "(I)I"⟩, 30) := ⟨⟨by decide +kernel, by decide +kernel⟩, List.mem_of_getElem? (i := 750) (by decide +kernel), List.mem_of_getElem? (i := 993) (by decide +kernel), List.mem_of_getElem? (i := 994) (by decide +kernel)⟩
theorem lw_p60 : lw_okq (⟨"RatsEatModel", "isMove", "(I)Z"⟩, 30) := ⟨⟨by decide +kernel, by decide +kernel⟩, List.mem_of_getElem? (i := 750) (by decide +kernel), List.mem_of_getElem? (i := 1014) (by decide +kernel), List.mem_of_getElem? (i := 1015) (by decide +kernel)⟩
theorem lw_p61 : lw_okq (⟨"RatsEatModel", "lostDrawn", "(II)I"⟩, 30) := ⟨⟨by decide +kernel, by decide +kernel⟩, List.mem_of_getElem? (i := 750) (by decide +kernel), List.mem_of_getElem? (i := 1035) (by decide +kernel), List.mem_of_getElem? (i := 1036) (by decide +kernel)⟩
def lw_privs_4 : List (MethodName × Nat) := [(⟨"RatsEatModel", "isGood", "(I)Z"⟩, 30), (⟨"RatsEatModel", "isBin", "(I)Z"⟩, 30), (⟨"RatsEatModel", "tries", "()V"⟩, 30), (⟨"RatsEatModel", "goes", "(II)I"⟩, 30), (⟨"RatsEatModel", "eats", "(III)I"⟩, 30), (⟨"RatsEatModel", "nights", "(III)I"⟩, 30), (⟨"RatsEatModel", "swaps", "(II)V"⟩, 30), (⟨"RatsEatModel", "follows", "()Z"⟩, 30), (⟨"RatsEatModel", "lostBy", "(III)I"⟩, 30), (⟨"RatsEatModel", "changes", "(II)V"⟩, 30), (⟨"RatsEatModel", "isPoured", "(II)Z"⟩, 30), (⟨"RatsEatModel", "lostByCorn", "(I)I"⟩, 30), (⟨"RatsEatModel", "isMove", "(I)Z"⟩, 30), (⟨"RatsEatModel", "lostDrawn", "(II)I"⟩, 30)]
theorem lw_r4 : ∀ q ∈ lw_privs_4, lw_okq q := List.forall_mem_cons.mpr ⟨lw_p48, List.forall_mem_cons.mpr ⟨lw_p49, List.forall_mem_cons.mpr ⟨lw_p50, List.forall_mem_cons.mpr ⟨lw_p51, List.forall_mem_cons.mpr ⟨lw_p52, List.forall_mem_cons.mpr ⟨lw_p53, List.forall_mem_cons.mpr ⟨lw_p54, List.forall_mem_cons.mpr ⟨lw_p55, List.forall_mem_cons.mpr ⟨lw_p56, List.forall_mem_cons.mpr ⟨lw_p57, List.forall_mem_cons.mpr ⟨lw_p58, List.forall_mem_cons.mpr ⟨lw_p59, List.forall_mem_cons.mpr ⟨lw_p60, List.forall_mem_cons.mpr ⟨lw_p61, fun _ h => absurd h List.not_mem_nil⟩⟩⟩⟩⟩⟩⟩⟩⟩⟩⟩⟩⟩⟩
def lw_privs : List (MethodName × Nat) := lw_privs_1 ++ (lw_privs_2 ++ (lw_privs_3 ++ (lw_privs_4)))
def lw_tbl : List Cond := k2_sels lw_privs ++ tables_1
theorem lw_privs_ok : ∀ q ∈ lw_privs, lw_okq q := by
  show ∀ q ∈ lw_privs_1 ++ (lw_privs_2 ++ (lw_privs_3 ++ (lw_privs_4))), lw_okq q
  exact List.forall_mem_append.mpr ⟨lw_r1, List.forall_mem_append.mpr ⟨lw_r2, List.forall_mem_append.mpr ⟨lw_r3, lw_r4⟩⟩⟩
end
section
def RX0 : String := "RatsEat$Barn"
def TX0 : u_T := fun k => match k with
  | 0 => ("RatsEat$Barn", "told", "[I", true)
  | 1 => ("RatsEat$Barn", "owners", "[I", true)
  | 2 => ("RatsEat$Barn", "bins", "I", false)
  | 3 => ("RatsEat$Barn", "kind", "I", false)
  | 4 => ("RatsEat$Barn", "rats", "I", false)
  | 5 => ("RatsEat$Barn", "ratsBy", "I", false)
  | 6 => ("RatsEat$Barn", "wallOne", "[I", true)
  | 7 => ("RatsEat$Barn", "wallOther", "[I", true)
  | 8 => ("RatsEat$Barn", "walls", "I", false)
  | 9 => ("RatsEat$Barn", "cornNight", "[I", true)
  | 10 => ("RatsEat$Barn", "cornPecks", "[I", true)
  | 11 => ("RatsEat$Barn", "corns", "I", false)
  | 12 => ("RatsEat$Barn", "gapLow", "[I", true)
  | 13 => ("RatsEat$Barn", "gapHigh", "[I", true)
  | 14 => ("RatsEat$Barn", "walled", "[Z", true)
  | _ => ("RatsEat$Barn", "gaps", "I", false)
def tyX0 : Nat → FieldType := fun k => match k with
  | 0 => .array .int
  | 1 => .array .int
  | 2 => .int
  | 3 => .int
  | 4 => .int
  | 5 => .int
  | 6 => .array .int
  | 7 => .array .int
  | 8 => .int
  | 9 => .array .int
  | 10 => .array .int
  | 11 => .int
  | 12 => .array .int
  | 13 => .array .int
  | 14 => .array .boolean
  | _ => .int
abbrev wsX00 : List Cond := u_ws RX0 TX0 16
theorem nmX0 : ∀ a, a < 16 → ∀ b, b < 16 → a ≠ b → (TX0 a).2.1 ≠ (TX0 b).2.1 := by decide +kernel
theorem tyX0_ok : ∀ k, k < 16 → parseFieldDescriptor (TX0 k).2.2.1 = some (tyX0 k) := by decide +kernel
abbrev cX0_init : ByteArray := prog_2_method_1_code
def yX0_init : MethodName := ⟨RX0, "<init>", "()V"⟩
abbrev cX0_clear : ByteArray := prog_2_method_2_code
def yX0_clear : MethodName := ⟨RX0, "clear", "()V"⟩
abbrev cX0_addBin : ByteArray := prog_2_method_3_code
def yX0_addBin : MethodName := ⟨RX0, "addBin", "(II)Z"⟩
abbrev cX0_setKind : ByteArray := prog_2_method_4_code
def yX0_setKind : MethodName := ⟨RX0, "setKind", "(I)Z"⟩
abbrev cX0_setRats : ByteArray := prog_2_method_5_code
def yX0_setRats : MethodName := ⟨RX0, "setRats", "(II)Z"⟩
abbrev cX0_addWall : ByteArray := prog_2_method_6_code
def yX0_addWall : MethodName := ⟨RX0, "addWall", "(II)Z"⟩
abbrev cX0_addCorn : ByteArray := prog_2_method_7_code
def yX0_addCorn : MethodName := ⟨RX0, "addCorn", "(II)Z"⟩
abbrev cX0_joinBins : ByteArray := prog_2_method_8_code
def yX0_joinBins : MethodName := ⟨RX0, "joinBins", "()V"⟩
abbrev cX0_touch : ByteArray := prog_2_method_9_code
def yX0_touch : MethodName := ⟨RX0, "touch", "(II)Z"⟩
abbrev cX0_hasWall : ByteArray := prog_2_method_10_code
def yX0_hasWall : MethodName := ⟨RX0, "hasWall", "(II)Z"⟩
def RX1 : String := "RatsEat$Before"
def TX1 : u_T := fun k => match k with
  | 0 => ("RatsEat$Before", "barn", "LRatsEat$Barn;", true)
  | 1 => ("RatsEat$Before", "nights", "LRatsEat$Nights;", true)
  | 2 => ("RatsEat$Before", "row", "[I", true)
  | 3 => ("RatsEat$Before", "dawn", "[I", true)
  | 4 => ("RatsEat$Before", "first", "[I", true)
  | _ => ("RatsEat$Before", "found", "I", false)
def tyX1 : Nat → FieldType := fun k => match k with
  | 0 => .object "RatsEat$Barn"
  | 1 => .object "RatsEat$Nights"
  | 2 => .array .int
  | 3 => .array .int
  | 4 => .array .int
  | _ => .int
abbrev wsX10 : List Cond := u_ws RX1 TX1 6
theorem nmX1 : ∀ a, a < 6 → ∀ b, b < 6 → a ≠ b → (TX1 a).2.1 ≠ (TX1 b).2.1 := by decide +kernel
theorem tyX1_ok : ∀ k, k < 6 → parseFieldDescriptor (TX1 k).2.2.1 = some (tyX1 k) := by decide +kernel
abbrev cX1_init : ByteArray := prog_3_method_1_code
def yX1_init : MethodName := ⟨RX1, "<init>", "(LRatsEat$Barn;LRatsEat$Nights;)V"⟩
abbrev cX1_search : ByteArray := prog_3_method_2_code
def yX1_search : MethodName := ⟨RX1, "search", "([III)V"⟩
abbrev cX1_startRow : ByteArray := prog_3_method_3_code
def yX1_startRow : MethodName := ⟨RX1, "startRow", "([II)Z"⟩
abbrev cX1_nextRow : ByteArray := prog_3_method_4_code
def yX1_nextRow : MethodName := ⟨RX1, "nextRow", "([II)Z"⟩
abbrev cX1_becomes : ByteArray := prog_3_method_5_code
def yX1_becomes : MethodName := ⟨RX1, "becomes", "([II)Z"⟩
def RX2 : String := "RatsEat$CatSearch"
def TX2 : u_T := fun k => match k with
  | 0 => ("RatsEat$CatSearch", "barn", "LRatsEat$Barn;", true)
  | 1 => ("RatsEat$CatSearch", "nights", "LRatsEat$Nights;", true)
  | 2 => ("RatsEat$CatSearch", "start", "[I", true)
  | 3 => ("RatsEat$CatSearch", "dusk", "[I", true)
  | 4 => ("RatsEat$CatSearch", "row", "[I", true)
  | 5 => ("RatsEat$CatSearch", "best", "[I", true)
  | 6 => ("RatsEat$CatSearch", "least", "I", false)
  | 7 => ("RatsEat$CatSearch", "first", "I", false)
  | 8 => ("RatsEat$CatSearch", "many", "I", false)
  | _ => ("RatsEat$CatSearch", "all", "I", false)
def tyX2 : Nat → FieldType := fun k => match k with
  | 0 => .object "RatsEat$Barn"
  | 1 => .object "RatsEat$Nights"
  | 2 => .array .int
  | 3 => .array .int
  | 4 => .array .int
  | 5 => .array .int
  | 6 => .int
  | 7 => .int
  | 8 => .int
  | _ => .int
abbrev wsX20 : List Cond := u_ws RX2 TX2 10
theorem nmX2 : ∀ a, a < 10 → ∀ b, b < 10 → a ≠ b → (TX2 a).2.1 ≠ (TX2 b).2.1 := by decide +kernel
theorem tyX2_ok : ∀ k, k < 10 → parseFieldDescriptor (TX2 k).2.2.1 = some (tyX2 k) := by decide +kernel
abbrev cX2_init : ByteArray := prog_4_method_1_code
def yX2_init : MethodName := ⟨RX2, "<init>", "(LRatsEat$Barn;LRatsEat$Nights;)V"⟩
abbrev cX2_search : ByteArray := prog_4_method_2_code
def yX2_search : MethodName := ⟨RX2, "search", "([IIII)Z"⟩
abbrev cX2_choose : ByteArray := prog_4_method_3_code
def yX2_choose : MethodName := ⟨RX2, "choose", "(II)V"⟩
abbrev cX2_weigh : ByteArray := prog_4_method_4_code
def yX2_weigh : MethodName := ⟨RX2, "weigh", "()V"⟩
def RX3 : String := "RatsEat$Changes"
def TX3 : u_T := fun k => match k with
  | 0 => ("RatsEat$Changes", "barn", "LRatsEat$Barn;", true)
  | 1 => ("RatsEat$Changes", "nights", "LRatsEat$Nights;", true)
  | 2 => ("RatsEat$Changes", "row", "[I", true)
  | 3 => ("RatsEat$Changes", "dusk", "[I", true)
  | 4 => ("RatsEat$Changes", "one", "I", false)
  | 5 => ("RatsEat$Changes", "other", "I", false)
  | _ => ("RatsEat$Changes", "done", "I", false)
def tyX3 : Nat → FieldType := fun k => match k with
  | 0 => .object "RatsEat$Barn"
  | 1 => .object "RatsEat$Nights"
  | 2 => .array .int
  | 3 => .array .int
  | 4 => .int
  | 5 => .int
  | _ => .int
abbrev wsX30 : List Cond := u_ws RX3 TX3 7
theorem nmX3 : ∀ a, a < 7 → ∀ b, b < 7 → a ≠ b → (TX3 a).2.1 ≠ (TX3 b).2.1 := by decide +kernel
theorem tyX3_ok : ∀ k, k < 7 → parseFieldDescriptor (TX3 k).2.2.1 = some (tyX3 k) := by decide +kernel
abbrev cX3_init : ByteArray := prog_5_method_1_code
def yX3_init : MethodName := ⟨RX3, "<init>", "(LRatsEat$Barn;LRatsEat$Nights;)V"⟩
abbrev cX3_findExchange : ByteArray := prog_5_method_2_code
def yX3_findExchange : MethodName := ⟨RX3, "findExchange", "([II)Z"⟩
abbrev cX3_settle : ByteArray := prog_5_method_3_code
def yX3_settle : MethodName := ⟨RX3, "settle", "([II)V"⟩
abbrev cX3_changeBest : ByteArray := prog_5_method_4_code
def yX3_changeBest : MethodName := ⟨RX3, "changeBest", "(II)Z"⟩
abbrev cX3_lossOfRow : ByteArray := prog_5_method_5_code
def yX3_lossOfRow : MethodName := ⟨RX3, "lossOfRow", "(II)I"⟩
def RX4 : String := "RatsEat$CornSearch"
def TX4 : u_T := fun k => match k with
  | 0 => ("RatsEat$CornSearch", "barn", "LRatsEat$Barn;", true)
  | 1 => ("RatsEat$CornSearch", "nights", "LRatsEat$Nights;", true)
  | 2 => ("RatsEat$CornSearch", "ahead", "[[I", true)
  | 3 => ("RatsEat$CornSearch", "row", "[I", true)
  | 4 => ("RatsEat$CornSearch", "best", "[I", true)
  | 5 => ("RatsEat$CornSearch", "least", "I", false)
  | 6 => ("RatsEat$CornSearch", "coming", "I", false)
  | _ => ("RatsEat$CornSearch", "end", "I", false)
def tyX4 : Nat → FieldType := fun k => match k with
  | 0 => .object "RatsEat$Barn"
  | 1 => .object "RatsEat$Nights"
  | 2 => .array (.array .int)
  | 3 => .array .int
  | 4 => .array .int
  | 5 => .int
  | 6 => .int
  | _ => .int
abbrev wsX40 : List Cond := u_ws RX4 TX4 8
theorem nmX4 : ∀ a, a < 8 → ∀ b, b < 8 → a ≠ b → (TX4 a).2.1 ≠ (TX4 b).2.1 := by decide +kernel
theorem tyX4_ok : ∀ k, k < 8 → parseFieldDescriptor (TX4 k).2.2.1 = some (tyX4 k) := by decide +kernel
abbrev cX4_init : ByteArray := prog_6_method_1_code
def yX4_init : MethodName := ⟨RX4, "<init>", "(LRatsEat$Barn;LRatsEat$Nights;)V"⟩
abbrev cX4_search : ByteArray := prog_6_method_2_code
def yX4_search : MethodName := ⟨RX4, "search", "([II)Z"⟩
abbrev cX4_goOn : ByteArray := prog_6_method_3_code
def yX4_goOn : MethodName := ⟨RX4, "goOn", "(III)V"⟩
def RX5 : String := "RatsEat$Nights"
def TX5 : u_T := fun k => match k with
  | 0 => ("RatsEat$Nights", "barn", "LRatsEat$Barn;", true)
  | 1 => ("RatsEat$Nights", "cat", "[Z", true)
  | 2 => ("RatsEat$Nights", "wanted", "[I", true)
  | _ => ("RatsEat$Nights", "goneOf", "[I", true)
def tyX5 : Nat → FieldType := fun k => match k with
  | 0 => .object "RatsEat$Barn"
  | 1 => .array .boolean
  | 2 => .array .int
  | _ => .array .int
abbrev wsX50 : List Cond := u_ws RX5 TX5 4
theorem nmX5 : ∀ a, a < 4 → ∀ b, b < 4 → a ≠ b → (TX5 a).2.1 ≠ (TX5 b).2.1 := by decide +kernel
theorem tyX5_ok : ∀ k, k < 4 → parseFieldDescriptor (TX5 k).2.2.1 = some (tyX5 k) := by decide +kernel
abbrev cX5_init : ByteArray := prog_7_method_1_code
def yX5_init : MethodName := ⟨RX5, "<init>", "(LRatsEat$Barn;)V"⟩
abbrev cX5_run : ByteArray := prog_7_method_2_code
def yX5_run : MethodName := ⟨RX5, "run", "(I[IIII)I"⟩
abbrev cX5_goneFrom : ByteArray := prog_7_method_3_code
def yX5_goneFrom : MethodName := ⟨RX5, "goneFrom", "(I)I"⟩
abbrev cX5_partOf : ByteArray := prog_7_method_4_code
def yX5_partOf : MethodName := ⟨RX5, "partOf", "(II)I"⟩
abbrev cX5_pass : ByteArray := prog_7_method_5_code
def yX5_pass : MethodName := ⟨RX5, "pass", "([III)I"⟩
abbrev cX5_wantByGaps : ByteArray := prog_7_method_6_code
def yX5_wantByGaps : MethodName := ⟨RX5, "wantByGaps", "([III)V"⟩
def RX6 : String := "RatsEat$Orders"
def TX6 : u_T := fun k => match k with
  | 0 => ("RatsEat$Orders", "barn", "LRatsEat$Barn;", true)
  | 1 => ("RatsEat$Orders", "nights", "LRatsEat$Nights;", true)
  | 2 => ("RatsEat$Orders", "row", "[I", true)
  | 3 => ("RatsEat$Orders", "dusk", "[I", true)
  | 4 => ("RatsEat$Orders", "best", "[I", true)
  | _ => ("RatsEat$Orders", "least", "I", false)
def tyX6 : Nat → FieldType := fun k => match k with
  | 0 => .object "RatsEat$Barn"
  | 1 => .object "RatsEat$Nights"
  | 2 => .array .int
  | 3 => .array .int
  | 4 => .array .int
  | _ => .int
abbrev wsX60 : List Cond := u_ws RX6 TX6 6
theorem nmX6 : ∀ a, a < 6 → ∀ b, b < 6 → a ≠ b → (TX6 a).2.1 ≠ (TX6 b).2.1 := by decide +kernel
theorem tyX6_ok : ∀ k, k < 6 → parseFieldDescriptor (TX6 k).2.2.1 = some (tyX6 k) := by decide +kernel
abbrev cX6_init : ByteArray := prog_8_method_1_code
def yX6_init : MethodName := ⟨RX6, "<init>", "(LRatsEat$Barn;LRatsEat$Nights;)V"⟩
abbrev cX6_search : ByteArray := prog_8_method_2_code
def yX6_search : MethodName := ⟨RX6, "search", "([III)V"⟩
abbrev cX6_sortRow : ByteArray := prog_8_method_3_code
def yX6_sortRow : MethodName := ⟨RX6, "sortRow", "()V"⟩
abbrev cX6_nextOrder : ByteArray := prog_8_method_4_code
def yX6_nextOrder : MethodName := ⟨RX6, "nextOrder", "()Z"⟩
def RX7 : String := "RatsEat$PourSearch"
def TX7 : u_T := fun k => match k with
  | 0 => ("RatsEat$PourSearch", "barn", "LRatsEat$Barn;", true)
  | 1 => ("RatsEat$PourSearch", "nights", "LRatsEat$Nights;", true)
  | 2 => ("RatsEat$PourSearch", "today", "LRatsEat$Pouring;", true)
  | 3 => ("RatsEat$PourSearch", "tomorrow", "LRatsEat$Pouring;", true)
  | 4 => ("RatsEat$PourSearch", "dusk", "[I", true)
  | 5 => ("RatsEat$PourSearch", "nextDusk", "[I", true)
  | 6 => ("RatsEat$PourSearch", "least", "I", false)
  | 7 => ("RatsEat$PourSearch", "from", "I", false)
  | 8 => ("RatsEat$PourSearch", "to", "I", false)
  | _ => ("RatsEat$PourSearch", "many", "I", false)
def tyX7 : Nat → FieldType := fun k => match k with
  | 0 => .object "RatsEat$Barn"
  | 1 => .object "RatsEat$Nights"
  | 2 => .object "RatsEat$Pouring"
  | 3 => .object "RatsEat$Pouring"
  | 4 => .array .int
  | 5 => .array .int
  | 6 => .int
  | 7 => .int
  | 8 => .int
  | _ => .int
abbrev wsX70 : List Cond := u_ws RX7 TX7 10
theorem nmX7 : ∀ a, a < 10 → ∀ b, b < 10 → a ≠ b → (TX7 a).2.1 ≠ (TX7 b).2.1 := by decide +kernel
theorem tyX7_ok : ∀ k, k < 10 → parseFieldDescriptor (TX7 k).2.2.1 = some (tyX7 k) := by decide +kernel
abbrev cX7_init : ByteArray := prog_9_method_1_code
def yX7_init : MethodName := ⟨RX7, "<init>", "(LRatsEat$Barn;LRatsEat$Nights;)V"⟩
abbrev cX7_search : ByteArray := prog_9_method_2_code
def yX7_search : MethodName := ⟨RX7, "search", "([IIII)V"⟩
abbrev cX7_leastTomorrow : ByteArray := prog_9_method_3_code
def yX7_leastTomorrow : MethodName := ⟨RX7, "leastTomorrow", "(II)I"⟩
def RX8 : String := "RatsEat$Pouring"
def TX8 : u_T := fun k => match k with
  | 0 => ("RatsEat$Pouring", "from", "I", false)
  | 1 => ("RatsEat$Pouring", "to", "I", false)
  | _ => ("RatsEat$Pouring", "many", "I", false)
def tyX8 : Nat → FieldType := fun k => match k with
  | 0 => .int
  | 1 => .int
  | _ => .int
abbrev wsX80 : List Cond := u_ws RX8 TX8 3
theorem nmX8 : ∀ a, a < 3 → ∀ b, b < 3 → a ≠ b → (TX8 a).2.1 ≠ (TX8 b).2.1 := by decide +kernel
theorem tyX8_ok : ∀ k, k < 3 → parseFieldDescriptor (TX8 k).2.2.1 = some (tyX8 k) := by decide +kernel
abbrev cX8_init : ByteArray := prog_10_method_1_code
def yX8_init : MethodName := ⟨RX8, "<init>", "()V"⟩
abbrev cX8_toNothing : ByteArray := prog_10_method_2_code
def yX8_toNothing : MethodName := ⟨RX8, "toNothing", "()V"⟩
abbrev cX8_toNext : ByteArray := prog_10_method_3_code
def yX8_toNext : MethodName := ⟨RX8, "toNext", "([III)Z"⟩
abbrev cX8_fill : ByteArray := prog_10_method_4_code
def yX8_fill : MethodName := ⟨RX8, "fill", "([I[I)V"⟩
def RX9 : String := "RatsEat$Reader"
def TX9 : u_T := fun k => match k with
  | _ => ("RatsEat$Reader", "numbers", "[I", true)
def tyX9 : Nat → FieldType := fun k => match k with
  | _ => .array .int
abbrev wsX90 : List Cond := u_ws RX9 TX9 1
theorem nmX9 : ∀ a, a < 1 → ∀ b, b < 1 → a ≠ b → (TX9 a).2.1 ≠ (TX9 b).2.1 := by decide +kernel
theorem tyX9_ok : ∀ k, k < 1 → parseFieldDescriptor (TX9 k).2.2.1 = some (tyX9 k) := by decide +kernel
abbrev cX9_init : ByteArray := prog_11_method_1_code
def yX9_init : MethodName := ⟨RX9, "<init>", "()V"⟩
abbrev cX9_readInto : ByteArray := prog_11_method_2_code
def yX9_readInto : MethodName := ⟨RX9, "readInto", "(LRatsEat$Barn;[BI)I"⟩
abbrev cX9_behindItem : ByteArray := prog_11_method_3_code
def yX9_behindItem : MethodName := ⟨RX9, "behindItem", "([BII)I"⟩
abbrev cX9_numbersDue : ByteArray := prog_11_method_4_code
def yX9_numbersDue : MethodName := ⟨RX9, "numbersDue", "(I)I"⟩
abbrev cX9_behindFigures : ByteArray := prog_11_method_5_code
def yX9_behindFigures : MethodName := ⟨RX9, "behindFigures", "([BII)I"⟩
abbrev cX9_numberIn : ByteArray := prog_11_method_6_code
def yX9_numberIn : MethodName := ⟨RX9, "numberIn", "([BII)I"⟩
abbrev cX9_tell : ByteArray := prog_11_method_7_code
def yX9_tell : MethodName := ⟨RX9, "tell", "(LRatsEat$Barn;I)Z"⟩
def RX10 : String := "RatsEat"
def TX10 : u_T := fun k => match k with
  | 0 => ("RatsEat", "text", "[B", true)
  | 1 => ("RatsEat", "length", "I", false)
  | 2 => ("RatsEat", "reader", "LRatsEat$Reader;", true)
  | 3 => ("RatsEat", "draft", "LRatsEat$Barn;", true)
  | 4 => ("RatsEat", "barn", "LRatsEat$Barn;", true)
  | 5 => ("RatsEat", "nights", "LRatsEat$Nights;", true)
  | 6 => ("RatsEat", "pecks", "[I", true)
  | 7 => ("RatsEat", "tonight", "I", false)
  | 8 => ("RatsEat", "trial", "[I", true)
  | 9 => ("RatsEat", "keptPecks", "[[I", true)
  | 10 => ("RatsEat", "keptNights", "[I", true)
  | 11 => ("RatsEat", "kept", "I", false)
  | 12 => ("RatsEat", "orders", "LRatsEat$Orders;", true)
  | 13 => ("RatsEat", "changes", "LRatsEat$Changes;", true)
  | 14 => ("RatsEat", "pourSearch", "LRatsEat$PourSearch;", true)
  | 15 => ("RatsEat", "cornSearch", "LRatsEat$CornSearch;", true)
  | 16 => ("RatsEat", "catSearch", "LRatsEat$CatSearch;", true)
  | _ => ("RatsEat", "before", "LRatsEat$Before;", true)
def tyX10 : Nat → FieldType := fun k => match k with
  | 0 => .array .byte
  | 1 => .int
  | 2 => .object "RatsEat$Reader"
  | 3 => .object "RatsEat$Barn"
  | 4 => .object "RatsEat$Barn"
  | 5 => .object "RatsEat$Nights"
  | 6 => .array .int
  | 7 => .int
  | 8 => .array .int
  | 9 => .array (.array .int)
  | 10 => .array .int
  | 11 => .int
  | 12 => .object "RatsEat$Orders"
  | 13 => .object "RatsEat$Changes"
  | 14 => .object "RatsEat$PourSearch"
  | 15 => .object "RatsEat$CornSearch"
  | 16 => .object "RatsEat$CatSearch"
  | _ => .object "RatsEat$Before"
abbrev wsX100 : List Cond := u_ws RX10 TX10 18
theorem nmX10 : ∀ a, a < 18 → ∀ b, b < 18 → a ≠ b → (TX10 a).2.1 ≠ (TX10 b).2.1 := by decide +kernel
theorem tyX10_ok : ∀ k, k < 18 → parseFieldDescriptor (TX10 k).2.2.1 = some (tyX10 k) := by decide +kernel
abbrev cX10_init : ByteArray := prog_1_method_1_code
def yX10_init : MethodName := ⟨RX10, "<init>", "()V"⟩
abbrev cX10_write : ByteArray := prog_1_method_2_code
def yX10_write : MethodName := ⟨RX10, "write", "(IJ)I"⟩
abbrev cX10_wipe : ByteArray := prog_1_method_3_code
def yX10_wipe : MethodName := ⟨RX10, "wipe", "()I"⟩
abbrev cX10_fault : ByteArray := prog_1_method_4_code
def yX10_fault : MethodName := ⟨RX10, "fault", "()I"⟩
abbrev cX10_lay : ByteArray := prog_1_method_5_code
def yX10_lay : MethodName := ⟨RX10, "lay", "()I"⟩
abbrev cX10_bin : ByteArray := prog_1_method_6_code
def yX10_bin : MethodName := ⟨RX10, "bin", "(II)I"⟩
abbrev cX10_gap : ByteArray := prog_1_method_7_code
def yX10_gap : MethodName := ⟨RX10, "gap", "(II)I"⟩
abbrev cX10_night : ByteArray := prog_1_method_8_code
def yX10_night : MethodName := ⟨RX10, "night", "()I"⟩
abbrev cX10_pour : ByteArray := prog_1_method_9_code
def yX10_pour : MethodName := ⟨RX10, "pour", "(III)I"⟩
abbrev cX10_left : ByteArray := prog_1_method_10_code
def yX10_left : MethodName := ⟨RX10, "left", "(II)I"⟩
abbrev cX10_lost : ByteArray := prog_1_method_11_code
def yX10_lost : MethodName := ⟨RX10, "lost", "(II)I"⟩
abbrev cX10_order : ByteArray := prog_1_method_12_code
def yX10_order : MethodName := ⟨RX10, "order", "(II)I"⟩
abbrev cX10_exchanged : ByteArray := prog_1_method_13_code
def yX10_exchanged : MethodName := ⟨RX10, "exchanged", "(I)I"⟩
abbrev cX10_pours : ByteArray := prog_1_method_14_code
def yX10_pours : MethodName := ⟨RX10, "pours", "(III)I"⟩
abbrev cX10_corn : ByteArray := prog_1_method_15_code
def yX10_corn : MethodName := ⟨RX10, "corn", "(II)I"⟩
abbrev cX10_cats : ByteArray := prog_1_method_16_code
def yX10_cats : MethodName := ⟨RX10, "cats", "(III)I"⟩
abbrev cX10_moves : ByteArray := prog_1_method_17_code
def yX10_moves : MethodName := ⟨RX10, "moves", "(I)I"⟩
abbrev cX10_was : ByteArray := prog_1_method_18_code
def yX10_was : MethodName := ⟨RX10, "was", "(III)I"⟩
abbrev cX10_others : ByteArray := prog_1_method_19_code
def yX10_others : MethodName := ⟨RX10, "others", "(II)I"⟩
abbrev cX10_drawn : ByteArray := prog_1_method_20_code
def yX10_drawn : MethodName := ⟨RX10, "drawn", "(II)I"⟩
abbrev cX10_ten : ByteArray := prog_1_method_21_code
def yX10_ten : MethodName := ⟨RX10, "ten", "(II)I"⟩
abbrev cX10_keep : ByteArray := prog_1_method_22_code
def yX10_keep : MethodName := ⟨RX10, "keep", "()I"⟩
abbrev cX10_back : ByteArray := prog_1_method_23_code
def yX10_back : MethodName := ⟨RX10, "back", "()I"⟩
abbrev cX10_count : ByteArray := prog_1_method_24_code
def yX10_count : MethodName := ⟨RX10, "count", "(I)I"⟩
abbrev cX10_enterBarn : ByteArray := prog_1_method_25_code
def yX10_enterBarn : MethodName := ⟨RX10, "enterBarn", "()V"⟩
abbrev cX10_isBin : ByteArray := prog_1_method_26_code
def yX10_isBin : MethodName := ⟨RX10, "isBin", "(I)Z"⟩
abbrev cX10_sumOf : ByteArray := prog_1_method_27_code
def yX10_sumOf : MethodName := ⟨RX10, "sumOf", "([I)I"⟩
abbrev cX10_drawTrial : ByteArray := prog_1_method_28_code
def yX10_drawTrial : MethodName := ⟨RX10, "drawTrial", "(I)V"⟩
abbrev cX10_within : ByteArray := prog_1_method_29_code
def yX10_within : MethodName := ⟨RX10, "within", "(III)Z"⟩
abbrev cX10_copyBins : ByteArray := prog_1_method_30_code
def yX10_copyBins : MethodName := ⟨RX10, "copyBins", "([I[I)V"⟩
abbrev cX10_swapBins : ByteArray := prog_1_method_31_code
def yX10_swapBins : MethodName := ⟨RX10, "swapBins", "([III)V"⟩
abbrev cX10_canPour : ByteArray := prog_1_method_32_code
def yX10_canPour : MethodName := ⟨RX10, "canPour", "([IIII)Z"⟩
def RX11 : String := "RatsEatModel"
def TX11 : u_T := fun k => match k with
  | 0 => ("RatsEatModel", "length", "I", false)
  | 1 => ("RatsEatModel", "text", "[B", true)
  | 2 => ("RatsEatModel", "at", "I", false)
  | 3 => ("RatsEatModel", "bins", "[I", true)
  | 4 => ("RatsEatModel", "first", "[I", true)
  | 5 => ("RatsEatModel", "owner", "[I", true)
  | 6 => ("RatsEatModel", "rule", "[I", true)
  | 7 => ("RatsEatModel", "walls", "[I", true)
  | 8 => ("RatsEatModel", "wall", "[I", true)
  | 9 => ("RatsEatModel", "corns", "[I", true)
  | 10 => ("RatsEatModel", "corn", "[I", true)
  | 11 => ("RatsEatModel", "gaps", "I", false)
  | 12 => ("RatsEatModel", "one", "[I", true)
  | 13 => ("RatsEatModel", "other", "[I", true)
  | 14 => ("RatsEatModel", "shut", "[Z", true)
  | 15 => ("RatsEatModel", "cats", "I", false)
  | 16 => ("RatsEatModel", "now", "[I", true)
  | 17 => ("RatsEatModel", "night", "I", false)
  | 18 => ("RatsEatModel", "kept", "I", false)
  | 19 => ("RatsEatModel", "keptNow", "[I", true)
  | 20 => ("RatsEatModel", "keptNight", "[I", true)
  | 21 => ("RatsEatModel", "has", "[I", true)
  | 22 => ("RatsEatModel", "dusk", "[I", true)
  | 23 => ("RatsEatModel", "gone", "[I", true)
  | 24 => ("RatsEatModel", "row", "[I", true)
  | 25 => ("RatsEatModel", "best", "[I", true)
  | 26 => ("RatsEatModel", "poured", "[I", true)
  | 27 => ("RatsEatModel", "moved", "I", false)
  | 28 => ("RatsEatModel", "got", "[I", true)
  | _ => ("RatsEatModel", "all", "I", false)
def tyX11 : Nat → FieldType := fun k => match k with
  | 0 => .int
  | 1 => .array .byte
  | 2 => .int
  | 3 => .array .int
  | 4 => .array .int
  | 5 => .array .int
  | 6 => .array .int
  | 7 => .array .int
  | 8 => .array .int
  | 9 => .array .int
  | 10 => .array .int
  | 11 => .int
  | 12 => .array .int
  | 13 => .array .int
  | 14 => .array .boolean
  | 15 => .int
  | 16 => .array .int
  | 17 => .int
  | 18 => .int
  | 19 => .array .int
  | 20 => .array .int
  | 21 => .array .int
  | 22 => .array .int
  | 23 => .array .int
  | 24 => .array .int
  | 25 => .array .int
  | 26 => .array .int
  | 27 => .int
  | 28 => .array .int
  | _ => .int
abbrev wsX110 : List Cond := u_ws RX11 TX11 30
theorem nmX11 : ∀ a, a < 30 → ∀ b, b < 30 → a ≠ b → (TX11 a).2.1 ≠ (TX11 b).2.1 := by decide +kernel
theorem tyX11_ok : ∀ k, k < 30 → parseFieldDescriptor (TX11 k).2.2.1 = some (tyX11 k) := by decide +kernel
abbrev cX11_init : ByteArray := prog_13_method_1_code
def yX11_init : MethodName := ⟨RX11, "<init>", "()V"⟩
abbrev cX11_in : ByteArray := prog_13_method_2_code
def yX11_in : MethodName := ⟨RX11, "in", "(JJJ)Z"⟩
abbrev cX11_write : ByteArray := prog_13_method_3_code
def yX11_write : MethodName := ⟨RX11, "write", "(IJ)I"⟩
abbrev cX11_wipe : ByteArray := prog_13_method_4_code
def yX11_wipe : MethodName := ⟨RX11, "wipe", "()I"⟩
abbrev cX11_number : ByteArray := prog_13_method_5_code
def yX11_number : MethodName := ⟨RX11, "number", "()I"⟩
abbrev cX11_parts : ByteArray := prog_13_method_6_code
def yX11_parts : MethodName := ⟨RX11, "parts", "(I)I"⟩
abbrev cX11_isItem : ByteArray := prog_13_method_7_code
def yX11_isItem : MethodName := ⟨RX11, "isItem", "()Z"⟩
abbrev cX11_isGood : ByteArray := prog_13_method_8_code
def yX11_isGood : MethodName := ⟨RX11, "isGood", "(I)Z"⟩
abbrev cX11_begins : ByteArray := prog_13_method_9_code
def yX11_begins : MethodName := ⟨RX11, "begins", "()V"⟩
abbrev cX11_takes : ByteArray := prog_13_method_10_code
def yX11_takes : MethodName := ⟨RX11, "takes", "()V"⟩
abbrev cX11_touch : ByteArray := prog_13_method_11_code
def yX11_touch : MethodName := ⟨RX11, "touch", "(II)Z"⟩
abbrev cX11_isShut : ByteArray := prog_13_method_12_code
def yX11_isShut : MethodName := ⟨RX11, "isShut", "(II)Z"⟩
abbrev cX11_fault : ByteArray := prog_13_method_13_code
def yX11_fault : MethodName := ⟨RX11, "fault", "()I"⟩
abbrev cX11_lay : ByteArray := prog_13_method_14_code
def yX11_lay : MethodName := ⟨RX11, "lay", "()I"⟩
abbrev cX11_isBin : ByteArray := prog_13_method_15_code
def yX11_isBin : MethodName := ⟨RX11, "isBin", "(I)Z"⟩
abbrev cX11_bin : ByteArray := prog_13_method_16_code
def yX11_bin : MethodName := ⟨RX11, "bin", "(II)I"⟩
abbrev cX11_gap : ByteArray := prog_13_method_17_code
def yX11_gap : MethodName := ⟨RX11, "gap", "(II)I"⟩
abbrev cX11_eats : ByteArray := prog_13_method_18_code
def yX11_eats : MethodName := ⟨RX11, "eats", "(III)I"⟩
abbrev cX11_goes : ByteArray := prog_13_method_19_code
def yX11_goes : MethodName := ⟨RX11, "goes", "(II)I"⟩
abbrev cX11_nights : ByteArray := prog_13_method_20_code
def yX11_nights : MethodName := ⟨RX11, "nights", "(III)I"⟩
abbrev cX11_tries : ByteArray := prog_13_method_21_code
def yX11_tries : MethodName := ⟨RX11, "tries", "()V"⟩
abbrev cX11_night : ByteArray := prog_13_method_22_code
def yX11_night : MethodName := ⟨RX11, "night", "()I"⟩
abbrev cX11_pour : ByteArray := prog_13_method_23_code
def yX11_pour : MethodName := ⟨RX11, "pour", "(III)I"⟩
abbrev cX11_isLong : ByteArray := prog_13_method_24_code
def yX11_isLong : MethodName := ⟨RX11, "isLong", "(I)Z"⟩
abbrev cX11_left : ByteArray := prog_13_method_25_code
def yX11_left : MethodName := ⟨RX11, "left", "(II)I"⟩
abbrev cX11_lost : ByteArray := prog_13_method_26_code
def yX11_lost : MethodName := ⟨RX11, "lost", "(II)I"⟩
abbrev cX11_follows : ByteArray := prog_13_method_27_code
def yX11_follows : MethodName := ⟨RX11, "follows", "()Z"⟩
abbrev cX11_swaps : ByteArray := prog_13_method_28_code
def yX11_swaps : MethodName := ⟨RX11, "swaps", "(II)V"⟩
abbrev cX11_order : ByteArray := prog_13_method_29_code
def yX11_order : MethodName := ⟨RX11, "order", "(II)I"⟩
abbrev cX11_changes : ByteArray := prog_13_method_30_code
def yX11_changes : MethodName := ⟨RX11, "changes", "(II)V"⟩
abbrev cX11_lostBy : ByteArray := prog_13_method_31_code
def yX11_lostBy : MethodName := ⟨RX11, "lostBy", "(III)I"⟩
abbrev cX11_exchanged : ByteArray := prog_13_method_32_code
def yX11_exchanged : MethodName := ⟨RX11, "exchanged", "(I)I"⟩
abbrev cX11_isPoured : ByteArray := prog_13_method_33_code
def yX11_isPoured : MethodName := ⟨RX11, "isPoured", "(II)Z"⟩
abbrev cX11_pours : ByteArray := prog_13_method_34_code
def yX11_pours : MethodName := ⟨RX11, "pours", "(III)I"⟩
abbrev cX11_lostByCorn : ByteArray := prog_13_method_35_code
def yX11_lostByCorn : MethodName := ⟨RX11, "lostByCorn", "(I)I"⟩
abbrev cX11_corn : ByteArray := prog_13_method_36_code
def yX11_corn : MethodName := ⟨RX11, "corn", "(II)I"⟩
abbrev cX11_gapOf : ByteArray := prog_13_method_37_code
def yX11_gapOf : MethodName := ⟨RX11, "gapOf", "(II)I"⟩
abbrev cX11_many : ByteArray := prog_13_method_38_code
def yX11_many : MethodName := ⟨RX11, "many", "(I)I"⟩
abbrev cX11_isAhead : ByteArray := prog_13_method_39_code
def yX11_isAhead : MethodName := ⟨RX11, "isAhead", "(II)Z"⟩
abbrev cX11_cats : ByteArray := prog_13_method_40_code
def yX11_cats : MethodName := ⟨RX11, "cats", "(III)I"⟩
abbrev cX11_isMove : ByteArray := prog_13_method_41_code
def yX11_isMove : MethodName := ⟨RX11, "isMove", "(I)Z"⟩
abbrev cX11_moves : ByteArray := prog_13_method_42_code
def yX11_moves : MethodName := ⟨RX11, "moves", "(I)I"⟩
abbrev cX11_was : ByteArray := prog_13_method_43_code
def yX11_was : MethodName := ⟨RX11, "was", "(III)I"⟩
abbrev cX11_others : ByteArray := prog_13_method_44_code
def yX11_others : MethodName := ⟨RX11, "others", "(II)I"⟩
abbrev cX11_lostDrawn : ByteArray := prog_13_method_45_code
def yX11_lostDrawn : MethodName := ⟨RX11, "lostDrawn", "(II)I"⟩
abbrev cX11_isSeed : ByteArray := prog_13_method_46_code
def yX11_isSeed : MethodName := ⟨RX11, "isSeed", "(I)Z"⟩
abbrev cX11_drawn : ByteArray := prog_13_method_47_code
def yX11_drawn : MethodName := ⟨RX11, "drawn", "(II)I"⟩
abbrev cX11_ten : ByteArray := prog_13_method_48_code
def yX11_ten : MethodName := ⟨RX11, "ten", "(II)I"⟩
abbrev cX11_keep : ByteArray := prog_13_method_49_code
def yX11_keep : MethodName := ⟨RX11, "keep", "()I"⟩
abbrev cX11_back : ByteArray := prog_13_method_50_code
def yX11_back : MethodName := ⟨RX11, "back", "()I"⟩
abbrev cX11_count : ByteArray := prog_13_method_51_code
def yX11_count : MethodName := ⟨RX11, "count", "(I)I"⟩
def RJ9 : String := "java/lang/Math"
abbrev cJ9_max_7cf53 : ByteArray := prog_14_method_65_code
def yJ9_max_7cf53 : MethodName := ⟨RJ9, "max", "(II)I"⟩
abbrev cJ9_min_7cf53 : ByteArray := prog_14_method_69_code
def yJ9_min_7cf53 : MethodName := ⟨RJ9, "min", "(II)I"⟩
def RJ10 : String := "java/lang/System"
def RL : String := "RatsEatLaw"
abbrev cL_law : ByteArray := code
def yL_law : MethodName := ⟨RL, "law", "([I)Z"⟩
abbrev vwCl : List vw_C := [(RX0, TX0, 16), (RX1, TX1, 6), (RX2, TX2, 10), (RX3, TX3, 7), (RX4, TX4, 8), (RX5, TX5, 4), (RX6, TX6, 6), (RX7, TX7, 10), (RX8, TX8, 3), (RX9, TX9, 1), (RX10, TX10, 18), (RX11, TX11, 30)]
end
section
theorem dX0_init_0 : decode cX0_init 0 = .ok (.aload_n 0, 1) := by decide +kernel
theorem dX0_init_1 : decode cX0_init 1 = .ok (.invokespecial 3, 3) := by decide +kernel
theorem dX0_init_4 : decode cX0_init 4 = .ok (.aload_n 0, 1) := by decide +kernel
theorem dX0_init_5 : decode cX0_init 5 = .ok (.bipush 8, 2) := by decide +kernel
theorem dX0_init_7 : decode cX0_init 7 = .ok (.newarray .int, 2) := by decide +kernel
theorem dX0_init_9 : decode cX0_init 9 = .ok (.putfield 9, 3) := by decide +kernel
theorem dX0_init_12 : decode cX0_init 12 = .ok (.aload_n 0, 1) := by decide +kernel
theorem dX0_init_13 : decode cX0_init 13 = .ok (.bipush 8, 2) := by decide +kernel
theorem dX0_init_15 : decode cX0_init 15 = .ok (.newarray .int, 2) := by decide +kernel
theorem dX0_init_17 : decode cX0_init 17 = .ok (.putfield 15, 3) := by decide +kernel
theorem dX0_init_20 : decode cX0_init 20 = .ok (.aload_n 0, 1) := by decide +kernel
theorem dX0_init_21 : decode cX0_init 21 = .ok (.iconst 0, 1) := by decide +kernel
theorem dX0_init_22 : decode cX0_init 22 = .ok (.putfield 18, 3) := by decide +kernel
theorem dX0_init_25 : decode cX0_init 25 = .ok (.aload_n 0, 1) := by decide +kernel
theorem dX0_init_26 : decode cX0_init 26 = .ok (.iconst 0, 1) := by decide +kernel
theorem dX0_init_27 : decode cX0_init 27 = .ok (.putfield 22, 3) := by decide +kernel
theorem dX0_init_30 : decode cX0_init 30 = .ok (.aload_n 0, 1) := by decide +kernel
theorem dX0_init_31 : decode cX0_init 31 = .ok (.iconst 0, 1) := by decide +kernel
theorem dX0_init_32 : decode cX0_init 32 = .ok (.putfield 25, 3) := by decide +kernel
theorem dX0_init_35 : decode cX0_init 35 = .ok (.aload_n 0, 1) := by decide +kernel
theorem dX0_init_36 : decode cX0_init 36 = .ok (.iconst 0, 1) := by decide +kernel
theorem dX0_init_37 : decode cX0_init 37 = .ok (.putfield 28, 3) := by decide +kernel
theorem dX0_init_40 : decode cX0_init 40 = .ok (.aload_n 0, 1) := by decide +kernel
theorem dX0_init_41 : decode cX0_init 41 = .ok (.bipush 8, 2) := by decide +kernel
theorem dX0_init_43 : decode cX0_init 43 = .ok (.newarray .int, 2) := by decide +kernel
theorem dX0_init_45 : decode cX0_init 45 = .ok (.putfield 31, 3) := by decide +kernel
theorem dX0_init_48 : decode cX0_init 48 = .ok (.aload_n 0, 1) := by decide +kernel
theorem dX0_init_49 : decode cX0_init 49 = .ok (.bipush 8, 2) := by decide +kernel
theorem dX0_init_51 : decode cX0_init 51 = .ok (.newarray .int, 2) := by decide +kernel
theorem dX0_init_53 : decode cX0_init 53 = .ok (.putfield 34, 3) := by decide +kernel
theorem dX0_init_56 : decode cX0_init 56 = .ok (.aload_n 0, 1) := by decide +kernel
theorem dX0_init_57 : decode cX0_init 57 = .ok (.iconst 0, 1) := by decide +kernel
theorem dX0_init_58 : decode cX0_init 58 = .ok (.putfield 37, 3) := by decide +kernel
theorem dX0_init_61 : decode cX0_init 61 = .ok (.aload_n 0, 1) := by decide +kernel
theorem dX0_init_62 : decode cX0_init 62 = .ok (.iconst 4, 1) := by decide +kernel
theorem dX0_init_63 : decode cX0_init 63 = .ok (.newarray .int, 2) := by decide +kernel
theorem dX0_init_65 : decode cX0_init 65 = .ok (.putfield 40, 3) := by decide +kernel
theorem dX0_init_68 : decode cX0_init 68 = .ok (.aload_n 0, 1) := by decide +kernel
theorem dX0_init_69 : decode cX0_init 69 = .ok (.iconst 4, 1) := by decide +kernel
theorem dX0_init_70 : decode cX0_init 70 = .ok (.newarray .int, 2) := by decide +kernel
theorem dX0_init_72 : decode cX0_init 72 = .ok (.putfield 43, 3) := by decide +kernel
theorem dX0_init_75 : decode cX0_init 75 = .ok (.aload_n 0, 1) := by decide +kernel
theorem dX0_init_76 : decode cX0_init 76 = .ok (.iconst 0, 1) := by decide +kernel
theorem dX0_init_77 : decode cX0_init 77 = .ok (.putfield 46, 3) := by decide +kernel
theorem dX0_init_80 : decode cX0_init 80 = .ok (.aload_n 0, 1) := by decide +kernel
theorem dX0_init_81 : decode cX0_init 81 = .ok (.bipush 10, 2) := by decide +kernel
theorem dX0_init_83 : decode cX0_init 83 = .ok (.newarray .int, 2) := by decide +kernel
theorem dX0_init_85 : decode cX0_init 85 = .ok (.putfield 49, 3) := by decide +kernel
theorem dX0_init_88 : decode cX0_init 88 = .ok (.aload_n 0, 1) := by decide +kernel
theorem dX0_init_89 : decode cX0_init 89 = .ok (.bipush 10, 2) := by decide +kernel
theorem dX0_init_91 : decode cX0_init 91 = .ok (.newarray .int, 2) := by decide +kernel
theorem dX0_init_93 : decode cX0_init 93 = .ok (.putfield 52, 3) := by decide +kernel
theorem dX0_init_96 : decode cX0_init 96 = .ok (.aload_n 0, 1) := by decide +kernel
theorem dX0_init_97 : decode cX0_init 97 = .ok (.bipush 10, 2) := by decide +kernel
theorem dX0_init_99 : decode cX0_init 99 = .ok (.newarray .boolean, 2) := by decide +kernel
theorem dX0_init_101 : decode cX0_init 101 = .ok (.putfield 55, 3) := by decide +kernel
theorem dX0_init_104 : decode cX0_init 104 = .ok (.aload_n 0, 1) := by decide +kernel
theorem dX0_init_105 : decode cX0_init 105 = .ok (.iconst 0, 1) := by decide +kernel
theorem dX0_init_106 : decode cX0_init 106 = .ok (.putfield 59, 3) := by decide +kernel
theorem dX0_init_109 : decode cX0_init 109 = .ok (.return_, 1) := by decide +kernel
theorem dX0_clear_0 : decode cX0_clear 0 = .ok (.aload_n 0, 1) := by decide +kernel
theorem dX0_clear_1 : decode cX0_clear 1 = .ok (.iconst 0, 1) := by decide +kernel
theorem dX0_clear_2 : decode cX0_clear 2 = .ok (.putfield 18, 3) := by decide +kernel
theorem dX0_clear_5 : decode cX0_clear 5 = .ok (.aload_n 0, 1) := by decide +kernel
theorem dX0_clear_6 : decode cX0_clear 6 = .ok (.iconst 0, 1) := by decide +kernel
theorem dX0_clear_7 : decode cX0_clear 7 = .ok (.putfield 22, 3) := by decide +kernel
theorem dX0_clear_10 : decode cX0_clear 10 = .ok (.aload_n 0, 1) := by decide +kernel
theorem dX0_clear_11 : decode cX0_clear 11 = .ok (.iconst 0, 1) := by decide +kernel
theorem dX0_clear_12 : decode cX0_clear 12 = .ok (.putfield 25, 3) := by decide +kernel
theorem dX0_clear_15 : decode cX0_clear 15 = .ok (.aload_n 0, 1) := by decide +kernel
theorem dX0_clear_16 : decode cX0_clear 16 = .ok (.iconst 0, 1) := by decide +kernel
theorem dX0_clear_17 : decode cX0_clear 17 = .ok (.putfield 28, 3) := by decide +kernel
theorem dX0_clear_20 : decode cX0_clear 20 = .ok (.aload_n 0, 1) := by decide +kernel
theorem dX0_clear_21 : decode cX0_clear 21 = .ok (.iconst 0, 1) := by decide +kernel
theorem dX0_clear_22 : decode cX0_clear 22 = .ok (.putfield 37, 3) := by decide +kernel
theorem dX0_clear_25 : decode cX0_clear 25 = .ok (.aload_n 0, 1) := by decide +kernel
theorem dX0_clear_26 : decode cX0_clear 26 = .ok (.iconst 0, 1) := by decide +kernel
theorem dX0_clear_27 : decode cX0_clear 27 = .ok (.putfield 46, 3) := by decide +kernel
theorem dX0_clear_30 : decode cX0_clear 30 = .ok (.aload_n 0, 1) := by decide +kernel
theorem dX0_clear_31 : decode cX0_clear 31 = .ok (.iconst 0, 1) := by decide +kernel
theorem dX0_clear_32 : decode cX0_clear 32 = .ok (.putfield 59, 3) := by decide +kernel
theorem dX0_clear_35 : decode cX0_clear 35 = .ok (.return_, 1) := by decide +kernel
theorem dX0_addBin_0 : decode cX0_addBin 0 = .ok (.aload_n 0, 1) := by decide +kernel
theorem dX0_addBin_1 : decode cX0_addBin 1 = .ok (.getfield 18, 3) := by decide +kernel
theorem dX0_addBin_4 : decode cX0_addBin 4 = .ok (.bipush 8, 2) := by decide +kernel
theorem dX0_addBin_6 : decode cX0_addBin 6 = .ok (.if_icmp .ge 14, 3) := by decide +kernel
theorem dX0_addBin_9 : decode cX0_addBin 9 = .ok (.iload_n 1, 1) := by decide +kernel
theorem dX0_addBin_10 : decode cX0_addBin 10 = .ok (.bipush 99, 2) := by decide +kernel
theorem dX0_addBin_12 : decode cX0_addBin 12 = .ok (.if_icmp .gt 8, 3) := by decide +kernel
theorem dX0_addBin_15 : decode cX0_addBin 15 = .ok (.iload_n 2, 1) := by decide +kernel
theorem dX0_addBin_16 : decode cX0_addBin 16 = .ok (.iconst 1, 1) := by decide +kernel
theorem dX0_addBin_17 : decode cX0_addBin 17 = .ok (.if_icmp .le 5, 3) := by decide +kernel
theorem dX0_addBin_20 : decode cX0_addBin 20 = .ok (.iconst 0, 1) := by decide +kernel
theorem dX0_addBin_21 : decode cX0_addBin 21 = .ok (.ireturn, 1) := by decide +kernel
theorem dX0_addBin_22 : decode cX0_addBin 22 = .ok (.aload_n 0, 1) := by decide +kernel
theorem dX0_addBin_23 : decode cX0_addBin 23 = .ok (.getfield 9, 3) := by decide +kernel
theorem dX0_addBin_26 : decode cX0_addBin 26 = .ok (.aload_n 0, 1) := by decide +kernel
theorem dX0_addBin_27 : decode cX0_addBin 27 = .ok (.getfield 18, 3) := by decide +kernel
theorem dX0_addBin_30 : decode cX0_addBin 30 = .ok (.iload_n 1, 1) := by decide +kernel
theorem dX0_addBin_31 : decode cX0_addBin 31 = .ok (.iastore, 1) := by decide +kernel
theorem dX0_addBin_32 : decode cX0_addBin 32 = .ok (.aload_n 0, 1) := by decide +kernel
theorem dX0_addBin_33 : decode cX0_addBin 33 = .ok (.getfield 15, 3) := by decide +kernel
theorem dX0_addBin_36 : decode cX0_addBin 36 = .ok (.aload_n 0, 1) := by decide +kernel
theorem dX0_addBin_37 : decode cX0_addBin 37 = .ok (.getfield 18, 3) := by decide +kernel
theorem dX0_addBin_40 : decode cX0_addBin 40 = .ok (.iload_n 2, 1) := by decide +kernel
theorem dX0_addBin_41 : decode cX0_addBin 41 = .ok (.iastore, 1) := by decide +kernel
theorem dX0_addBin_42 : decode cX0_addBin 42 = .ok (.aload_n 0, 1) := by decide +kernel
theorem dX0_addBin_43 : decode cX0_addBin 43 = .ok (.dup, 1) := by decide +kernel
theorem dX0_addBin_44 : decode cX0_addBin 44 = .ok (.getfield 18, 3) := by decide +kernel
theorem dX0_addBin_47 : decode cX0_addBin 47 = .ok (.iconst 1, 1) := by decide +kernel
theorem dX0_addBin_48 : decode cX0_addBin 48 = .ok (.iadd, 1) := by decide +kernel
theorem dX0_addBin_49 : decode cX0_addBin 49 = .ok (.putfield 18, 3) := by decide +kernel
theorem dX0_addBin_52 : decode cX0_addBin 52 = .ok (.iconst 1, 1) := by decide +kernel
theorem dX0_addBin_53 : decode cX0_addBin 53 = .ok (.ireturn, 1) := by decide +kernel
theorem dX0_setKind_0 : decode cX0_setKind 0 = .ok (.iload_n 1, 1) := by decide +kernel
theorem dX0_setKind_1 : decode cX0_setKind 1 = .ok (.iconst 2, 1) := by decide +kernel
theorem dX0_setKind_2 : decode cX0_setKind 2 = .ok (.if_icmp .le 5, 3) := by decide +kernel
theorem dX0_setKind_5 : decode cX0_setKind 5 = .ok (.iconst 0, 1) := by decide +kernel
theorem dX0_setKind_6 : decode cX0_setKind 6 = .ok (.ireturn, 1) := by decide +kernel
theorem dX0_setKind_7 : decode cX0_setKind 7 = .ok (.aload_n 0, 1) := by decide +kernel
theorem dX0_setKind_8 : decode cX0_setKind 8 = .ok (.iload_n 1, 1) := by decide +kernel
theorem dX0_setKind_9 : decode cX0_setKind 9 = .ok (.putfield 22, 3) := by decide +kernel
theorem dX0_setKind_12 : decode cX0_setKind 12 = .ok (.iconst 1, 1) := by decide +kernel
theorem dX0_setKind_13 : decode cX0_setKind 13 = .ok (.ireturn, 1) := by decide +kernel
theorem dX0_setRats_0 : decode cX0_setRats 0 = .ok (.iload_n 1, 1) := by decide +kernel
theorem dX0_setRats_1 : decode cX0_setRats 1 = .ok (.iconst 3, 1) := by decide +kernel
theorem dX0_setRats_2 : decode cX0_setRats 2 = .ok (.if_icmp .gt 9, 3) := by decide +kernel
theorem dX0_setRats_5 : decode cX0_setRats 5 = .ok (.iload_n 2, 1) := by decide +kernel
theorem dX0_setRats_6 : decode cX0_setRats 6 = .ok (.bipush 30, 2) := by decide +kernel
theorem dX0_setRats_8 : decode cX0_setRats 8 = .ok (.if_icmp .le 5, 3) := by decide +kernel
theorem dX0_setRats_11 : decode cX0_setRats 11 = .ok (.iconst 0, 1) := by decide +kernel
theorem dX0_setRats_12 : decode cX0_setRats 12 = .ok (.ireturn, 1) := by decide +kernel
theorem dX0_setRats_13 : decode cX0_setRats 13 = .ok (.aload_n 0, 1) := by decide +kernel
theorem dX0_setRats_14 : decode cX0_setRats 14 = .ok (.iload_n 1, 1) := by decide +kernel
theorem dX0_setRats_15 : decode cX0_setRats 15 = .ok (.putfield 25, 3) := by decide +kernel
theorem dX0_setRats_18 : decode cX0_setRats 18 = .ok (.aload_n 0, 1) := by decide +kernel
theorem dX0_setRats_19 : decode cX0_setRats 19 = .ok (.iload_n 2, 1) := by decide +kernel
theorem dX0_setRats_20 : decode cX0_setRats 20 = .ok (.putfield 28, 3) := by decide +kernel
theorem dX0_setRats_23 : decode cX0_setRats 23 = .ok (.iconst 1, 1) := by decide +kernel
theorem dX0_setRats_24 : decode cX0_setRats 24 = .ok (.ireturn, 1) := by decide +kernel
theorem dX0_addWall_0 : decode cX0_addWall 0 = .ok (.aload_n 0, 1) := by decide +kernel
theorem dX0_addWall_1 : decode cX0_addWall 1 = .ok (.getfield 37, 3) := by decide +kernel
theorem dX0_addWall_4 : decode cX0_addWall 4 = .ok (.bipush 8, 2) := by decide +kernel
theorem dX0_addWall_6 : decode cX0_addWall 6 = .ok (.if_icmp .ge 24, 3) := by decide +kernel
theorem dX0_addWall_9 : decode cX0_addWall 9 = .ok (.iload_n 1, 1) := by decide +kernel
theorem dX0_addWall_10 : decode cX0_addWall 10 = .ok (.aload_n 0, 1) := by decide +kernel
theorem dX0_addWall_11 : decode cX0_addWall 11 = .ok (.getfield 18, 3) := by decide +kernel
theorem dX0_addWall_14 : decode cX0_addWall 14 = .ok (.if_icmp .ge 16, 3) := by decide +kernel
theorem dX0_addWall_17 : decode cX0_addWall 17 = .ok (.iload_n 2, 1) := by decide +kernel
theorem dX0_addWall_18 : decode cX0_addWall 18 = .ok (.aload_n 0, 1) := by decide +kernel
theorem dX0_addWall_19 : decode cX0_addWall 19 = .ok (.getfield 18, 3) := by decide +kernel
theorem dX0_addWall_22 : decode cX0_addWall 22 = .ok (.if_icmp .ge 8, 3) := by decide +kernel
theorem dX0_addWall_25 : decode cX0_addWall 25 = .ok (.iload_n 1, 1) := by decide +kernel
theorem dX0_addWall_26 : decode cX0_addWall 26 = .ok (.iload_n 2, 1) := by decide +kernel
theorem dX0_addWall_27 : decode cX0_addWall 27 = .ok (.if_icmp .ne 5, 3) := by decide +kernel
theorem dX0_addWall_30 : decode cX0_addWall 30 = .ok (.iconst 0, 1) := by decide +kernel
theorem dX0_addWall_31 : decode cX0_addWall 31 = .ok (.ireturn, 1) := by decide +kernel
theorem dX0_addWall_32 : decode cX0_addWall 32 = .ok (.aload_n 0, 1) := by decide +kernel
theorem dX0_addWall_33 : decode cX0_addWall 33 = .ok (.getfield 31, 3) := by decide +kernel
theorem dX0_addWall_36 : decode cX0_addWall 36 = .ok (.aload_n 0, 1) := by decide +kernel
theorem dX0_addWall_37 : decode cX0_addWall 37 = .ok (.getfield 37, 3) := by decide +kernel
theorem dX0_addWall_40 : decode cX0_addWall 40 = .ok (.iload_n 1, 1) := by decide +kernel
theorem dX0_addWall_41 : decode cX0_addWall 41 = .ok (.iastore, 1) := by decide +kernel
theorem dX0_addWall_42 : decode cX0_addWall 42 = .ok (.aload_n 0, 1) := by decide +kernel
theorem dX0_addWall_43 : decode cX0_addWall 43 = .ok (.getfield 34, 3) := by decide +kernel
theorem dX0_addWall_46 : decode cX0_addWall 46 = .ok (.aload_n 0, 1) := by decide +kernel
theorem dX0_addWall_47 : decode cX0_addWall 47 = .ok (.getfield 37, 3) := by decide +kernel
theorem dX0_addWall_50 : decode cX0_addWall 50 = .ok (.iload_n 2, 1) := by decide +kernel
theorem dX0_addWall_51 : decode cX0_addWall 51 = .ok (.iastore, 1) := by decide +kernel
theorem dX0_addWall_52 : decode cX0_addWall 52 = .ok (.aload_n 0, 1) := by decide +kernel
theorem dX0_addWall_53 : decode cX0_addWall 53 = .ok (.dup, 1) := by decide +kernel
theorem dX0_addWall_54 : decode cX0_addWall 54 = .ok (.getfield 37, 3) := by decide +kernel
theorem dX0_addWall_57 : decode cX0_addWall 57 = .ok (.iconst 1, 1) := by decide +kernel
theorem dX0_addWall_58 : decode cX0_addWall 58 = .ok (.iadd, 1) := by decide +kernel
theorem dX0_addWall_59 : decode cX0_addWall 59 = .ok (.putfield 37, 3) := by decide +kernel
theorem dX0_addWall_62 : decode cX0_addWall 62 = .ok (.iconst 1, 1) := by decide +kernel
theorem dX0_addWall_63 : decode cX0_addWall 63 = .ok (.ireturn, 1) := by decide +kernel
theorem dX0_addCorn_0 : decode cX0_addCorn 0 = .ok (.aload_n 0, 1) := by decide +kernel
theorem dX0_addCorn_1 : decode cX0_addCorn 1 = .ok (.getfield 46, 3) := by decide +kernel
theorem dX0_addCorn_4 : decode cX0_addCorn 4 = .ok (.iconst 4, 1) := by decide +kernel
theorem dX0_addCorn_5 : decode cX0_addCorn 5 = .ok (.if_icmp .ge 19, 3) := by decide +kernel
theorem dX0_addCorn_8 : decode cX0_addCorn 8 = .ok (.iload_n 1, 1) := by decide +kernel
theorem dX0_addCorn_9 : decode cX0_addCorn 9 = .ok (.bipush 30, 2) := by decide +kernel
theorem dX0_addCorn_11 : decode cX0_addCorn 11 = .ok (.if_icmp .gt 13, 3) := by decide +kernel
theorem dX0_addCorn_14 : decode cX0_addCorn 14 = .ok (.iload_n 2, 1) := by decide +kernel
theorem dX0_addCorn_15 : decode cX0_addCorn 15 = .ok (.iconst 1, 1) := by decide +kernel
theorem dX0_addCorn_16 : decode cX0_addCorn 16 = .ok (.bipush 60, 2) := by decide +kernel
theorem dX0_addCorn_18 : decode cX0_addCorn 18 = .ok (.invokestatic 62, 3) := by decide +kernel
theorem dX0_addCorn_21 : decode cX0_addCorn 21 = .ok (.ifCond .ne 5, 3) := by decide +kernel
theorem dX0_addCorn_24 : decode cX0_addCorn 24 = .ok (.iconst 0, 1) := by decide +kernel
theorem dX0_addCorn_25 : decode cX0_addCorn 25 = .ok (.ireturn, 1) := by decide +kernel
theorem dX0_addCorn_26 : decode cX0_addCorn 26 = .ok (.aload_n 0, 1) := by decide +kernel
theorem dX0_addCorn_27 : decode cX0_addCorn 27 = .ok (.getfield 46, 3) := by decide +kernel
theorem dX0_addCorn_30 : decode cX0_addCorn 30 = .ok (.ifCond .le 20, 3) := by decide +kernel
theorem dX0_addCorn_33 : decode cX0_addCorn 33 = .ok (.iload_n 1, 1) := by decide +kernel
theorem dX0_addCorn_34 : decode cX0_addCorn 34 = .ok (.aload_n 0, 1) := by decide +kernel
theorem dX0_addCorn_35 : decode cX0_addCorn 35 = .ok (.getfield 40, 3) := by decide +kernel
theorem dX0_addCorn_38 : decode cX0_addCorn 38 = .ok (.aload_n 0, 1) := by decide +kernel
theorem dX0_addCorn_39 : decode cX0_addCorn 39 = .ok (.getfield 46, 3) := by decide +kernel
theorem dX0_addCorn_42 : decode cX0_addCorn 42 = .ok (.iconst 1, 1) := by decide +kernel
theorem dX0_addCorn_43 : decode cX0_addCorn 43 = .ok (.isub, 1) := by decide +kernel
theorem dX0_addCorn_44 : decode cX0_addCorn 44 = .ok (.iaload, 1) := by decide +kernel
theorem dX0_addCorn_45 : decode cX0_addCorn 45 = .ok (.if_icmp .ge 5, 3) := by decide +kernel
theorem dX0_addCorn_48 : decode cX0_addCorn 48 = .ok (.iconst 0, 1) := by decide +kernel
theorem dX0_addCorn_49 : decode cX0_addCorn 49 = .ok (.ireturn, 1) := by decide +kernel
theorem dX0_addCorn_50 : decode cX0_addCorn 50 = .ok (.aload_n 0, 1) := by decide +kernel
theorem dX0_addCorn_51 : decode cX0_addCorn 51 = .ok (.getfield 40, 3) := by decide +kernel
theorem dX0_addCorn_54 : decode cX0_addCorn 54 = .ok (.aload_n 0, 1) := by decide +kernel
theorem dX0_addCorn_55 : decode cX0_addCorn 55 = .ok (.getfield 46, 3) := by decide +kernel
theorem dX0_addCorn_58 : decode cX0_addCorn 58 = .ok (.iload_n 1, 1) := by decide +kernel
theorem dX0_addCorn_59 : decode cX0_addCorn 59 = .ok (.iastore, 1) := by decide +kernel
theorem dX0_addCorn_60 : decode cX0_addCorn 60 = .ok (.aload_n 0, 1) := by decide +kernel
theorem dX0_addCorn_61 : decode cX0_addCorn 61 = .ok (.getfield 43, 3) := by decide +kernel
theorem dX0_addCorn_64 : decode cX0_addCorn 64 = .ok (.aload_n 0, 1) := by decide +kernel
theorem dX0_addCorn_65 : decode cX0_addCorn 65 = .ok (.getfield 46, 3) := by decide +kernel
theorem dX0_addCorn_68 : decode cX0_addCorn 68 = .ok (.iload_n 2, 1) := by decide +kernel
theorem dX0_addCorn_69 : decode cX0_addCorn 69 = .ok (.iastore, 1) := by decide +kernel
theorem dX0_addCorn_70 : decode cX0_addCorn 70 = .ok (.aload_n 0, 1) := by decide +kernel
theorem dX0_addCorn_71 : decode cX0_addCorn 71 = .ok (.dup, 1) := by decide +kernel
theorem dX0_addCorn_72 : decode cX0_addCorn 72 = .ok (.getfield 46, 3) := by decide +kernel
theorem dX0_addCorn_75 : decode cX0_addCorn 75 = .ok (.iconst 1, 1) := by decide +kernel
theorem dX0_addCorn_76 : decode cX0_addCorn 76 = .ok (.iadd, 1) := by decide +kernel
theorem dX0_addCorn_77 : decode cX0_addCorn 77 = .ok (.putfield 46, 3) := by decide +kernel
theorem dX0_addCorn_80 : decode cX0_addCorn 80 = .ok (.iconst 1, 1) := by decide +kernel
theorem dX0_addCorn_81 : decode cX0_addCorn 81 = .ok (.ireturn, 1) := by decide +kernel
theorem dX0_joinBins_0 : decode cX0_joinBins 0 = .ok (.aload_n 0, 1) := by decide +kernel
theorem dX0_joinBins_1 : decode cX0_joinBins 1 = .ok (.iconst 0, 1) := by decide +kernel
theorem dX0_joinBins_2 : decode cX0_joinBins 2 = .ok (.putfield 59, 3) := by decide +kernel
theorem dX0_joinBins_5 : decode cX0_joinBins 5 = .ok (.iconst 0, 1) := by decide +kernel
theorem dX0_joinBins_6 : decode cX0_joinBins 6 = .ok (.istore_n 1, 1) := by decide +kernel
theorem dX0_joinBins_7 : decode cX0_joinBins 7 = .ok (.iload_n 1, 1) := by decide +kernel
theorem dX0_joinBins_8 : decode cX0_joinBins 8 = .ok (.aload_n 0, 1) := by decide +kernel
theorem dX0_joinBins_9 : decode cX0_joinBins 9 = .ok (.getfield 18, 3) := by decide +kernel
theorem dX0_joinBins_12 : decode cX0_joinBins 12 = .ok (.if_icmp .ge 90, 3) := by decide +kernel
theorem dX0_joinBins_15 : decode cX0_joinBins 15 = .ok (.iload_n 1, 1) := by decide +kernel
theorem dX0_joinBins_16 : decode cX0_joinBins 16 = .ok (.iconst 1, 1) := by decide +kernel
theorem dX0_joinBins_17 : decode cX0_joinBins 17 = .ok (.iadd, 1) := by decide +kernel
theorem dX0_joinBins_18 : decode cX0_joinBins 18 = .ok (.istore_n 2, 1) := by decide +kernel
theorem dX0_joinBins_19 : decode cX0_joinBins 19 = .ok (.iload_n 2, 1) := by decide +kernel
theorem dX0_joinBins_20 : decode cX0_joinBins 20 = .ok (.aload_n 0, 1) := by decide +kernel
theorem dX0_joinBins_21 : decode cX0_joinBins 21 = .ok (.getfield 18, 3) := by decide +kernel
theorem dX0_joinBins_24 : decode cX0_joinBins 24 = .ok (.if_icmp .ge 72, 3) := by decide +kernel
theorem dX0_joinBins_27 : decode cX0_joinBins 27 = .ok (.aload_n 0, 1) := by decide +kernel
theorem dX0_joinBins_28 : decode cX0_joinBins 28 = .ok (.iload_n 1, 1) := by decide +kernel
theorem dX0_joinBins_29 : decode cX0_joinBins 29 = .ok (.iload_n 2, 1) := by decide +kernel
theorem dX0_joinBins_30 : decode cX0_joinBins 30 = .ok (.invokevirtual 66, 3) := by decide +kernel
theorem dX0_joinBins_33 : decode cX0_joinBins 33 = .ok (.ifCond .eq 57, 3) := by decide +kernel
theorem dX0_joinBins_36 : decode cX0_joinBins 36 = .ok (.aload_n 0, 1) := by decide +kernel
theorem dX0_joinBins_37 : decode cX0_joinBins 37 = .ok (.getfield 59, 3) := by decide +kernel
theorem dX0_joinBins_40 : decode cX0_joinBins 40 = .ok (.bipush 10, 2) := by decide +kernel
theorem dX0_joinBins_42 : decode cX0_joinBins 42 = .ok (.if_icmp .ge 48, 3) := by decide +kernel
theorem dX0_joinBins_45 : decode cX0_joinBins 45 = .ok (.aload_n 0, 1) := by decide +kernel
theorem dX0_joinBins_46 : decode cX0_joinBins 46 = .ok (.getfield 49, 3) := by decide +kernel
theorem dX0_joinBins_49 : decode cX0_joinBins 49 = .ok (.aload_n 0, 1) := by decide +kernel
theorem dX0_joinBins_50 : decode cX0_joinBins 50 = .ok (.getfield 59, 3) := by decide +kernel
theorem dX0_joinBins_53 : decode cX0_joinBins 53 = .ok (.iload_n 1, 1) := by decide +kernel
theorem dX0_joinBins_54 : decode cX0_joinBins 54 = .ok (.iastore, 1) := by decide +kernel
theorem dX0_joinBins_55 : decode cX0_joinBins 55 = .ok (.aload_n 0, 1) := by decide +kernel
theorem dX0_joinBins_56 : decode cX0_joinBins 56 = .ok (.getfield 52, 3) := by decide +kernel
theorem dX0_joinBins_59 : decode cX0_joinBins 59 = .ok (.aload_n 0, 1) := by decide +kernel
theorem dX0_joinBins_60 : decode cX0_joinBins 60 = .ok (.getfield 59, 3) := by decide +kernel
theorem dX0_joinBins_63 : decode cX0_joinBins 63 = .ok (.iload_n 2, 1) := by decide +kernel
theorem dX0_joinBins_64 : decode cX0_joinBins 64 = .ok (.iastore, 1) := by decide +kernel
theorem dX0_joinBins_65 : decode cX0_joinBins 65 = .ok (.aload_n 0, 1) := by decide +kernel
theorem dX0_joinBins_66 : decode cX0_joinBins 66 = .ok (.getfield 55, 3) := by decide +kernel
theorem dX0_joinBins_69 : decode cX0_joinBins 69 = .ok (.aload_n 0, 1) := by decide +kernel
theorem dX0_joinBins_70 : decode cX0_joinBins 70 = .ok (.getfield 59, 3) := by decide +kernel
theorem dX0_joinBins_73 : decode cX0_joinBins 73 = .ok (.aload_n 0, 1) := by decide +kernel
theorem dX0_joinBins_74 : decode cX0_joinBins 74 = .ok (.iload_n 1, 1) := by decide +kernel
theorem dX0_joinBins_75 : decode cX0_joinBins 75 = .ok (.iload_n 2, 1) := by decide +kernel
theorem dX0_joinBins_76 : decode cX0_joinBins 76 = .ok (.invokevirtual 70, 3) := by decide +kernel
theorem dX0_joinBins_79 : decode cX0_joinBins 79 = .ok (.bastore, 1) := by decide +kernel
theorem dX0_joinBins_80 : decode cX0_joinBins 80 = .ok (.aload_n 0, 1) := by decide +kernel
theorem dX0_joinBins_81 : decode cX0_joinBins 81 = .ok (.dup, 1) := by decide +kernel
theorem dX0_joinBins_82 : decode cX0_joinBins 82 = .ok (.getfield 59, 3) := by decide +kernel
theorem dX0_joinBins_85 : decode cX0_joinBins 85 = .ok (.iconst 1, 1) := by decide +kernel
theorem dX0_joinBins_86 : decode cX0_joinBins 86 = .ok (.iadd, 1) := by decide +kernel
theorem dX0_joinBins_87 : decode cX0_joinBins 87 = .ok (.putfield 59, 3) := by decide +kernel
theorem dX0_joinBins_90 : decode cX0_joinBins 90 = .ok (.iinc 2 1, 3) := by decide +kernel
theorem dX0_joinBins_93 : decode cX0_joinBins 93 = .ok (.goto (-74), 3) := by decide +kernel
theorem dX0_joinBins_96 : decode cX0_joinBins 96 = .ok (.iinc 1 1, 3) := by decide +kernel
theorem dX0_joinBins_99 : decode cX0_joinBins 99 = .ok (.goto (-92), 3) := by decide +kernel
theorem dX0_joinBins_102 : decode cX0_joinBins 102 = .ok (.return_, 1) := by decide +kernel
theorem dX0_touch_0 : decode cX0_touch 0 = .ok (.iload_n 2, 1) := by decide +kernel
theorem dX0_touch_1 : decode cX0_touch 1 = .ok (.iload_n 1, 1) := by decide +kernel
theorem dX0_touch_2 : decode cX0_touch 2 = .ok (.iconst 1, 1) := by decide +kernel
theorem dX0_touch_3 : decode cX0_touch 3 = .ok (.iadd, 1) := by decide +kernel
theorem dX0_touch_4 : decode cX0_touch 4 = .ok (.if_icmp .ne 7, 3) := by decide +kernel
theorem dX0_touch_7 : decode cX0_touch 7 = .ok (.iconst 1, 1) := by decide +kernel
theorem dX0_touch_8 : decode cX0_touch 8 = .ok (.goto 4, 3) := by decide +kernel
theorem dX0_touch_11 : decode cX0_touch 11 = .ok (.iconst 0, 1) := by decide +kernel
theorem dX0_touch_12 : decode cX0_touch 12 = .ok (.istore_n 3, 1) := by decide +kernel
theorem dX0_touch_13 : decode cX0_touch 13 = .ok (.aload_n 0, 1) := by decide +kernel
theorem dX0_touch_14 : decode cX0_touch 14 = .ok (.getfield 22, 3) := by decide +kernel
theorem dX0_touch_17 : decode cX0_touch 17 = .ok (.iconst 1, 1) := by decide +kernel
theorem dX0_touch_18 : decode cX0_touch 18 = .ok (.if_icmp .ne 27, 3) := by decide +kernel
theorem dX0_touch_21 : decode cX0_touch 21 = .ok (.iload_n 3, 1) := by decide +kernel
theorem dX0_touch_22 : decode cX0_touch 22 = .ok (.ifCond .ne 17, 3) := by decide +kernel
theorem dX0_touch_25 : decode cX0_touch 25 = .ok (.iload_n 1, 1) := by decide +kernel
theorem dX0_touch_26 : decode cX0_touch 26 = .ok (.ifCond .ne 17, 3) := by decide +kernel
theorem dX0_touch_29 : decode cX0_touch 29 = .ok (.iload_n 2, 1) := by decide +kernel
theorem dX0_touch_30 : decode cX0_touch 30 = .ok (.aload_n 0, 1) := by decide +kernel
theorem dX0_touch_31 : decode cX0_touch 31 = .ok (.getfield 18, 3) := by decide +kernel
theorem dX0_touch_34 : decode cX0_touch 34 = .ok (.iconst 1, 1) := by decide +kernel
theorem dX0_touch_35 : decode cX0_touch 35 = .ok (.isub, 1) := by decide +kernel
theorem dX0_touch_36 : decode cX0_touch 36 = .ok (.if_icmp .ne 7, 3) := by decide +kernel
theorem dX0_touch_39 : decode cX0_touch 39 = .ok (.iconst 1, 1) := by decide +kernel
theorem dX0_touch_40 : decode cX0_touch 40 = .ok (.goto 4, 3) := by decide +kernel
theorem dX0_touch_43 : decode cX0_touch 43 = .ok (.iconst 0, 1) := by decide +kernel
theorem dX0_touch_44 : decode cX0_touch 44 = .ok (.ireturn, 1) := by decide +kernel
theorem dX0_touch_45 : decode cX0_touch 45 = .ok (.aload_n 0, 1) := by decide +kernel
theorem dX0_touch_46 : decode cX0_touch 46 = .ok (.getfield 22, 3) := by decide +kernel
theorem dX0_touch_49 : decode cX0_touch 49 = .ok (.iconst 2, 1) := by decide +kernel
theorem dX0_touch_50 : decode cX0_touch 50 = .ok (.if_icmp .ne 43, 3) := by decide +kernel
theorem dX0_touch_53 : decode cX0_touch 53 = .ok (.aload_n 0, 1) := by decide +kernel
theorem dX0_touch_54 : decode cX0_touch 54 = .ok (.getfield 18, 3) := by decide +kernel
theorem dX0_touch_57 : decode cX0_touch 57 = .ok (.iconst 1, 1) := by decide +kernel
theorem dX0_touch_58 : decode cX0_touch 58 = .ok (.iadd, 1) := by decide +kernel
theorem dX0_touch_59 : decode cX0_touch 59 = .ok (.iconst 2, 1) := by decide +kernel
theorem dX0_touch_60 : decode cX0_touch 60 = .ok (.idiv, 1) := by decide +kernel
theorem dX0_touch_61 : decode cX0_touch 61 = .ok (.istore 4, 2) := by decide +kernel
theorem dX0_touch_63 : decode cX0_touch 63 = .ok (.iload_n 3, 1) := by decide +kernel
theorem dX0_touch_64 : decode cX0_touch 64 = .ok (.ifCond .eq 9, 3) := by decide +kernel
theorem dX0_touch_67 : decode cX0_touch 67 = .ok (.iload_n 2, 1) := by decide +kernel
theorem dX0_touch_68 : decode cX0_touch 68 = .ok (.iload 4, 2) := by decide +kernel
theorem dX0_touch_70 : decode cX0_touch 70 = .ok (.if_icmp .ne 17, 3) := by decide +kernel
theorem dX0_touch_73 : decode cX0_touch 73 = .ok (.iload_n 1, 1) := by decide +kernel
theorem dX0_touch_74 : decode cX0_touch 74 = .ok (.iload 4, 2) := by decide +kernel
theorem dX0_touch_76 : decode cX0_touch 76 = .ok (.if_icmp .ge 15, 3) := by decide +kernel
theorem dX0_touch_79 : decode cX0_touch 79 = .ok (.iload_n 2, 1) := by decide +kernel
theorem dX0_touch_80 : decode cX0_touch 80 = .ok (.iload 4, 2) := by decide +kernel
theorem dX0_touch_82 : decode cX0_touch 82 = .ok (.iload_n 1, 1) := by decide +kernel
theorem dX0_touch_83 : decode cX0_touch 83 = .ok (.iadd, 1) := by decide +kernel
theorem dX0_touch_84 : decode cX0_touch 84 = .ok (.if_icmp .ne 7, 3) := by decide +kernel
theorem dX0_touch_87 : decode cX0_touch 87 = .ok (.iconst 1, 1) := by decide +kernel
theorem dX0_touch_88 : decode cX0_touch 88 = .ok (.goto 4, 3) := by decide +kernel
theorem dX0_touch_91 : decode cX0_touch 91 = .ok (.iconst 0, 1) := by decide +kernel
theorem dX0_touch_92 : decode cX0_touch 92 = .ok (.ireturn, 1) := by decide +kernel
theorem dX0_touch_93 : decode cX0_touch 93 = .ok (.iload_n 3, 1) := by decide +kernel
theorem dX0_touch_94 : decode cX0_touch 94 = .ok (.ireturn, 1) := by decide +kernel
theorem dX0_hasWall_0 : decode cX0_hasWall 0 = .ok (.iconst 0, 1) := by decide +kernel
theorem dX0_hasWall_1 : decode cX0_hasWall 1 = .ok (.istore_n 3, 1) := by decide +kernel
theorem dX0_hasWall_2 : decode cX0_hasWall 2 = .ok (.iload_n 3, 1) := by decide +kernel
theorem dX0_hasWall_3 : decode cX0_hasWall 3 = .ok (.aload_n 0, 1) := by decide +kernel
theorem dX0_hasWall_4 : decode cX0_hasWall 4 = .ok (.getfield 37, 3) := by decide +kernel
theorem dX0_hasWall_7 : decode cX0_hasWall 7 = .ok (.if_icmp .ge 49, 3) := by decide +kernel
theorem dX0_hasWall_10 : decode cX0_hasWall 10 = .ok (.aload_n 0, 1) := by decide +kernel
theorem dX0_hasWall_11 : decode cX0_hasWall 11 = .ok (.getfield 31, 3) := by decide +kernel
theorem dX0_hasWall_14 : decode cX0_hasWall 14 = .ok (.iload_n 3, 1) := by decide +kernel
theorem dX0_hasWall_15 : decode cX0_hasWall 15 = .ok (.iaload, 1) := by decide +kernel
theorem dX0_hasWall_16 : decode cX0_hasWall 16 = .ok (.aload_n 0, 1) := by decide +kernel
theorem dX0_hasWall_17 : decode cX0_hasWall 17 = .ok (.getfield 34, 3) := by decide +kernel
theorem dX0_hasWall_20 : decode cX0_hasWall 20 = .ok (.iload_n 3, 1) := by decide +kernel
theorem dX0_hasWall_21 : decode cX0_hasWall 21 = .ok (.iaload, 1) := by decide +kernel
theorem dX0_hasWall_22 : decode cX0_hasWall 22 = .ok (.invokestatic 73, 3) := by decide +kernel
theorem dX0_hasWall_25 : decode cX0_hasWall 25 = .ok (.iload_n 1, 1) := by decide +kernel
theorem dX0_hasWall_26 : decode cX0_hasWall 26 = .ok (.if_icmp .ne 24, 3) := by decide +kernel
theorem dX0_hasWall_29 : decode cX0_hasWall 29 = .ok (.aload_n 0, 1) := by decide +kernel
theorem dX0_hasWall_30 : decode cX0_hasWall 30 = .ok (.getfield 31, 3) := by decide +kernel
theorem dX0_hasWall_33 : decode cX0_hasWall 33 = .ok (.iload_n 3, 1) := by decide +kernel
theorem dX0_hasWall_34 : decode cX0_hasWall 34 = .ok (.iaload, 1) := by decide +kernel
theorem dX0_hasWall_35 : decode cX0_hasWall 35 = .ok (.aload_n 0, 1) := by decide +kernel
theorem dX0_hasWall_36 : decode cX0_hasWall 36 = .ok (.getfield 34, 3) := by decide +kernel
theorem dX0_hasWall_39 : decode cX0_hasWall 39 = .ok (.iload_n 3, 1) := by decide +kernel
theorem dX0_hasWall_40 : decode cX0_hasWall 40 = .ok (.iaload, 1) := by decide +kernel
theorem dX0_hasWall_41 : decode cX0_hasWall 41 = .ok (.invokestatic 79, 3) := by decide +kernel
theorem dX0_hasWall_44 : decode cX0_hasWall 44 = .ok (.iload_n 2, 1) := by decide +kernel
theorem dX0_hasWall_45 : decode cX0_hasWall 45 = .ok (.if_icmp .ne 5, 3) := by decide +kernel
theorem dX0_hasWall_48 : decode cX0_hasWall 48 = .ok (.iconst 1, 1) := by decide +kernel
theorem dX0_hasWall_49 : decode cX0_hasWall 49 = .ok (.ireturn, 1) := by decide +kernel
theorem dX0_hasWall_50 : decode cX0_hasWall 50 = .ok (.iinc 3 1, 3) := by decide +kernel
theorem dX0_hasWall_53 : decode cX0_hasWall 53 = .ok (.goto (-51), 3) := by decide +kernel
theorem dX0_hasWall_56 : decode cX0_hasWall 56 = .ok (.iconst 0, 1) := by decide +kernel
theorem dX0_hasWall_57 : decode cX0_hasWall 57 = .ok (.ireturn, 1) := by decide +kernel
theorem dX1_init_0 : decode cX1_init 0 = .ok (.aload_n 0, 1) := by decide +kernel
theorem dX1_init_1 : decode cX1_init 1 = .ok (.invokespecial 3, 3) := by decide +kernel
theorem dX1_init_4 : decode cX1_init 4 = .ok (.aload_n 0, 1) := by decide +kernel
theorem dX1_init_5 : decode cX1_init 5 = .ok (.bipush 8, 2) := by decide +kernel
theorem dX1_init_7 : decode cX1_init 7 = .ok (.newarray .int, 2) := by decide +kernel
theorem dX1_init_9 : decode cX1_init 9 = .ok (.putfield 9, 3) := by decide +kernel
theorem dX1_init_12 : decode cX1_init 12 = .ok (.aload_n 0, 1) := by decide +kernel
theorem dX1_init_13 : decode cX1_init 13 = .ok (.bipush 8, 2) := by decide +kernel
theorem dX1_init_15 : decode cX1_init 15 = .ok (.newarray .int, 2) := by decide +kernel
theorem dX1_init_17 : decode cX1_init 17 = .ok (.putfield 15, 3) := by decide +kernel
theorem dX1_init_20 : decode cX1_init 20 = .ok (.aload_n 0, 1) := by decide +kernel
theorem dX1_init_21 : decode cX1_init 21 = .ok (.bipush 8, 2) := by decide +kernel
theorem dX1_init_23 : decode cX1_init 23 = .ok (.newarray .int, 2) := by decide +kernel
theorem dX1_init_25 : decode cX1_init 25 = .ok (.putfield 18, 3) := by decide +kernel
theorem dX1_init_28 : decode cX1_init 28 = .ok (.aload_n 0, 1) := by decide +kernel
theorem dX1_init_29 : decode cX1_init 29 = .ok (.iconst 0, 1) := by decide +kernel
theorem dX1_init_30 : decode cX1_init 30 = .ok (.putfield 21, 3) := by decide +kernel
theorem dX1_init_33 : decode cX1_init 33 = .ok (.aload_n 0, 1) := by decide +kernel
theorem dX1_init_34 : decode cX1_init 34 = .ok (.aload_n 1, 1) := by decide +kernel
theorem dX1_init_35 : decode cX1_init 35 = .ok (.putfield 25, 3) := by decide +kernel
theorem dX1_init_38 : decode cX1_init 38 = .ok (.aload_n 0, 1) := by decide +kernel
theorem dX1_init_39 : decode cX1_init 39 = .ok (.aload_n 2, 1) := by decide +kernel
theorem dX1_init_40 : decode cX1_init 40 = .ok (.putfield 29, 3) := by decide +kernel
theorem dX1_init_43 : decode cX1_init 43 = .ok (.return_, 1) := by decide +kernel
theorem dX1_search_0 : decode cX1_search 0 = .ok (.aload_n 0, 1) := by decide +kernel
theorem dX1_search_1 : decode cX1_search 1 = .ok (.iconst 0, 1) := by decide +kernel
theorem dX1_search_2 : decode cX1_search 2 = .ok (.putfield 21, 3) := by decide +kernel
theorem dX1_search_5 : decode cX1_search 5 = .ok (.aload_n 0, 1) := by decide +kernel
theorem dX1_search_6 : decode cX1_search 6 = .ok (.aload_n 1, 1) := by decide +kernel
theorem dX1_search_7 : decode cX1_search 7 = .ok (.iload_n 2, 1) := by decide +kernel
theorem dX1_search_8 : decode cX1_search 8 = .ok (.invokevirtual 33, 3) := by decide +kernel
theorem dX1_search_11 : decode cX1_search 11 = .ok (.istore 4, 2) := by decide +kernel
theorem dX1_search_13 : decode cX1_search 13 = .ok (.iconst 0, 1) := by decide +kernel
theorem dX1_search_14 : decode cX1_search 14 = .ok (.istore 5, 2) := by decide +kernel
theorem dX1_search_16 : decode cX1_search 16 = .ok (.iload 5, 2) := by decide +kernel
theorem dX1_search_18 : decode cX1_search 18 = .ok (.ldc 37, 2) := by decide +kernel
theorem dX1_search_20 : decode cX1_search 20 = .ok (.if_icmp .ge 59, 3) := by decide +kernel
theorem dX1_search_23 : decode cX1_search 23 = .ok (.iload 4, 2) := by decide +kernel
theorem dX1_search_25 : decode cX1_search 25 = .ok (.ifCond .eq 54, 3) := by decide +kernel
theorem dX1_search_28 : decode cX1_search 28 = .ok (.aload_n 0, 1) := by decide +kernel
theorem dX1_search_29 : decode cX1_search 29 = .ok (.aload_n 1, 1) := by decide +kernel
theorem dX1_search_30 : decode cX1_search 30 = .ok (.iload_n 3, 1) := by decide +kernel
theorem dX1_search_31 : decode cX1_search 31 = .ok (.invokevirtual 38, 3) := by decide +kernel
theorem dX1_search_34 : decode cX1_search 34 = .ok (.ifCond .eq 31, 3) := by decide +kernel
theorem dX1_search_37 : decode cX1_search 37 = .ok (.aload_n 0, 1) := by decide +kernel
theorem dX1_search_38 : decode cX1_search 38 = .ok (.getfield 21, 3) := by decide +kernel
theorem dX1_search_41 : decode cX1_search 41 = .ok (.ifCond .ne 14, 3) := by decide +kernel
theorem dX1_search_44 : decode cX1_search 44 = .ok (.aload_n 0, 1) := by decide +kernel
theorem dX1_search_45 : decode cX1_search 45 = .ok (.getfield 9, 3) := by decide +kernel
theorem dX1_search_48 : decode cX1_search 48 = .ok (.aload_n 0, 1) := by decide +kernel
theorem dX1_search_49 : decode cX1_search 49 = .ok (.getfield 18, 3) := by decide +kernel
theorem dX1_search_52 : decode cX1_search 52 = .ok (.invokestatic 41, 3) := by decide +kernel
theorem dX1_search_55 : decode cX1_search 55 = .ok (.aload_n 0, 1) := by decide +kernel
theorem dX1_search_56 : decode cX1_search 56 = .ok (.dup, 1) := by decide +kernel
theorem dX1_search_57 : decode cX1_search 57 = .ok (.getfield 21, 3) := by decide +kernel
theorem dX1_search_60 : decode cX1_search 60 = .ok (.iconst 1, 1) := by decide +kernel
theorem dX1_search_61 : decode cX1_search 61 = .ok (.iadd, 1) := by decide +kernel
theorem dX1_search_62 : decode cX1_search 62 = .ok (.putfield 21, 3) := by decide +kernel
theorem dX1_search_65 : decode cX1_search 65 = .ok (.aload_n 0, 1) := by decide +kernel
theorem dX1_search_66 : decode cX1_search 66 = .ok (.aload_n 1, 1) := by decide +kernel
theorem dX1_search_67 : decode cX1_search 67 = .ok (.iload_n 2, 1) := by decide +kernel
theorem dX1_search_68 : decode cX1_search 68 = .ok (.invokevirtual 45, 3) := by decide +kernel
theorem dX1_search_71 : decode cX1_search 71 = .ok (.istore 4, 2) := by decide +kernel
theorem dX1_search_73 : decode cX1_search 73 = .ok (.iinc 5 1, 3) := by decide +kernel
theorem dX1_search_76 : decode cX1_search 76 = .ok (.goto (-60), 3) := by decide +kernel
theorem dX1_search_79 : decode cX1_search 79 = .ok (.return_, 1) := by decide +kernel
theorem dX1_startRow_0 : decode cX1_startRow 0 = .ok (.aload_n 1, 1) := by decide +kernel
theorem dX1_startRow_1 : decode cX1_startRow 1 = .ok (.aload_n 0, 1) := by decide +kernel
theorem dX1_startRow_2 : decode cX1_startRow 2 = .ok (.getfield 9, 3) := by decide +kernel
theorem dX1_startRow_5 : decode cX1_startRow 5 = .ok (.invokestatic 41, 3) := by decide +kernel
theorem dX1_startRow_8 : decode cX1_startRow 8 = .ok (.iconst 0, 1) := by decide +kernel
theorem dX1_startRow_9 : decode cX1_startRow 9 = .ok (.istore_n 3, 1) := by decide +kernel
theorem dX1_startRow_10 : decode cX1_startRow 10 = .ok (.iload_n 3, 1) := by decide +kernel
theorem dX1_startRow_11 : decode cX1_startRow 11 = .ok (.aload_n 0, 1) := by decide +kernel
theorem dX1_startRow_12 : decode cX1_startRow 12 = .ok (.getfield 25, 3) := by decide +kernel
theorem dX1_startRow_15 : decode cX1_startRow 15 = .ok (.getfield 48, 3) := by decide +kernel
theorem dX1_startRow_18 : decode cX1_startRow 18 = .ok (.if_icmp .ge 18, 3) := by decide +kernel
theorem dX1_startRow_21 : decode cX1_startRow 21 = .ok (.aload_n 1, 1) := by decide +kernel
theorem dX1_startRow_22 : decode cX1_startRow 22 = .ok (.iload_n 3, 1) := by decide +kernel
theorem dX1_startRow_23 : decode cX1_startRow 23 = .ok (.iaload, 1) := by decide +kernel
theorem dX1_startRow_24 : decode cX1_startRow 24 = .ok (.iload_n 2, 1) := by decide +kernel
theorem dX1_startRow_25 : decode cX1_startRow 25 = .ok (.if_icmp .le 5, 3) := by decide +kernel
theorem dX1_startRow_28 : decode cX1_startRow 28 = .ok (.iconst 0, 1) := by decide +kernel
theorem dX1_startRow_29 : decode cX1_startRow 29 = .ok (.ireturn, 1) := by decide +kernel
theorem dX1_startRow_30 : decode cX1_startRow 30 = .ok (.iinc 3 1, 3) := by decide +kernel
theorem dX1_startRow_33 : decode cX1_startRow 33 = .ok (.goto (-23), 3) := by decide +kernel
theorem dX1_startRow_36 : decode cX1_startRow 36 = .ok (.iconst 1, 1) := by decide +kernel
theorem dX1_startRow_37 : decode cX1_startRow 37 = .ok (.ireturn, 1) := by decide +kernel
theorem dX1_nextRow_0 : decode cX1_nextRow 0 = .ok (.aload_n 0, 1) := by decide +kernel
theorem dX1_nextRow_1 : decode cX1_nextRow 1 = .ok (.getfield 25, 3) := by decide +kernel
theorem dX1_nextRow_4 : decode cX1_nextRow 4 = .ok (.getfield 48, 3) := by decide +kernel
theorem dX1_nextRow_7 : decode cX1_nextRow 7 = .ok (.iconst 1, 1) := by decide +kernel
theorem dX1_nextRow_8 : decode cX1_nextRow 8 = .ok (.isub, 1) := by decide +kernel
theorem dX1_nextRow_9 : decode cX1_nextRow 9 = .ok (.istore_n 3, 1) := by decide +kernel
theorem dX1_nextRow_10 : decode cX1_nextRow 10 = .ok (.iload_n 3, 1) := by decide +kernel
theorem dX1_nextRow_11 : decode cX1_nextRow 11 = .ok (.ifCond .lt 40, 3) := by decide +kernel
theorem dX1_nextRow_14 : decode cX1_nextRow 14 = .ok (.aload_n 0, 1) := by decide +kernel
theorem dX1_nextRow_15 : decode cX1_nextRow 15 = .ok (.getfield 9, 3) := by decide +kernel
theorem dX1_nextRow_18 : decode cX1_nextRow 18 = .ok (.iload_n 3, 1) := by decide +kernel
theorem dX1_nextRow_19 : decode cX1_nextRow 19 = .ok (.iaload, 1) := by decide +kernel
theorem dX1_nextRow_20 : decode cX1_nextRow 20 = .ok (.iload_n 2, 1) := by decide +kernel
theorem dX1_nextRow_21 : decode cX1_nextRow 21 = .ok (.if_icmp .ge 15, 3) := by decide +kernel
theorem dX1_nextRow_24 : decode cX1_nextRow 24 = .ok (.aload_n 0, 1) := by decide +kernel
theorem dX1_nextRow_25 : decode cX1_nextRow 25 = .ok (.getfield 9, 3) := by decide +kernel
theorem dX1_nextRow_28 : decode cX1_nextRow 28 = .ok (.iload_n 3, 1) := by decide +kernel
theorem dX1_nextRow_29 : decode cX1_nextRow 29 = .ok (.dup2, 1) := by decide +kernel
theorem dX1_nextRow_30 : decode cX1_nextRow 30 = .ok (.iaload, 1) := by decide +kernel
theorem dX1_nextRow_31 : decode cX1_nextRow 31 = .ok (.iconst 1, 1) := by decide +kernel
theorem dX1_nextRow_32 : decode cX1_nextRow 32 = .ok (.iadd, 1) := by decide +kernel
theorem dX1_nextRow_33 : decode cX1_nextRow 33 = .ok (.iastore, 1) := by decide +kernel
theorem dX1_nextRow_34 : decode cX1_nextRow 34 = .ok (.iconst 1, 1) := by decide +kernel
theorem dX1_nextRow_35 : decode cX1_nextRow 35 = .ok (.ireturn, 1) := by decide +kernel
theorem dX1_nextRow_36 : decode cX1_nextRow 36 = .ok (.aload_n 0, 1) := by decide +kernel
theorem dX1_nextRow_37 : decode cX1_nextRow 37 = .ok (.getfield 9, 3) := by decide +kernel
theorem dX1_nextRow_40 : decode cX1_nextRow 40 = .ok (.iload_n 3, 1) := by decide +kernel
theorem dX1_nextRow_41 : decode cX1_nextRow 41 = .ok (.aload_n 1, 1) := by decide +kernel
theorem dX1_nextRow_42 : decode cX1_nextRow 42 = .ok (.iload_n 3, 1) := by decide +kernel
theorem dX1_nextRow_43 : decode cX1_nextRow 43 = .ok (.iaload, 1) := by decide +kernel
theorem dX1_nextRow_44 : decode cX1_nextRow 44 = .ok (.iastore, 1) := by decide +kernel
theorem dX1_nextRow_45 : decode cX1_nextRow 45 = .ok (.iinc 3 (-1), 3) := by decide +kernel
theorem dX1_nextRow_48 : decode cX1_nextRow 48 = .ok (.goto (-38), 3) := by decide +kernel
theorem dX1_nextRow_51 : decode cX1_nextRow 51 = .ok (.iconst 0, 1) := by decide +kernel
theorem dX1_nextRow_52 : decode cX1_nextRow 52 = .ok (.ireturn, 1) := by decide +kernel
theorem dX1_becomes_0 : decode cX1_becomes 0 = .ok (.aload_n 0, 1) := by decide +kernel
theorem dX1_becomes_1 : decode cX1_becomes 1 = .ok (.getfield 9, 3) := by decide +kernel
theorem dX1_becomes_4 : decode cX1_becomes 4 = .ok (.aload_n 0, 1) := by decide +kernel
theorem dX1_becomes_5 : decode cX1_becomes 5 = .ok (.getfield 15, 3) := by decide +kernel
theorem dX1_becomes_8 : decode cX1_becomes 8 = .ok (.invokestatic 41, 3) := by decide +kernel
theorem dX1_becomes_11 : decode cX1_becomes 11 = .ok (.aload_n 0, 1) := by decide +kernel
theorem dX1_becomes_12 : decode cX1_becomes 12 = .ok (.getfield 29, 3) := by decide +kernel
theorem dX1_becomes_15 : decode cX1_becomes 15 = .ok (.aload_n 0, 1) := by decide +kernel
theorem dX1_becomes_16 : decode cX1_becomes 16 = .ok (.getfield 25, 3) := by decide +kernel
theorem dX1_becomes_19 : decode cX1_becomes 19 = .ok (.getfield 53, 3) := by decide +kernel
theorem dX1_becomes_22 : decode cX1_becomes 22 = .ok (.aload_n 0, 1) := by decide +kernel
theorem dX1_becomes_23 : decode cX1_becomes 23 = .ok (.getfield 15, 3) := by decide +kernel
theorem dX1_becomes_26 : decode cX1_becomes 26 = .ok (.iload_n 2, 1) := by decide +kernel
theorem dX1_becomes_27 : decode cX1_becomes 27 = .ok (.iconst 1, 1) := by decide +kernel
theorem dX1_becomes_28 : decode cX1_becomes 28 = .ok (.ldc 56, 2) := by decide +kernel
theorem dX1_becomes_30 : decode cX1_becomes 30 = .ok (.invokevirtual 57, 3) := by decide +kernel
theorem dX1_becomes_33 : decode cX1_becomes 33 = .ok (.pop, 1) := by decide +kernel
theorem dX1_becomes_34 : decode cX1_becomes 34 = .ok (.iconst 0, 1) := by decide +kernel
theorem dX1_becomes_35 : decode cX1_becomes 35 = .ok (.istore_n 3, 1) := by decide +kernel
theorem dX1_becomes_36 : decode cX1_becomes 36 = .ok (.iload_n 3, 1) := by decide +kernel
theorem dX1_becomes_37 : decode cX1_becomes 37 = .ok (.aload_n 0, 1) := by decide +kernel
theorem dX1_becomes_38 : decode cX1_becomes 38 = .ok (.getfield 25, 3) := by decide +kernel
theorem dX1_becomes_41 : decode cX1_becomes 41 = .ok (.getfield 48, 3) := by decide +kernel
theorem dX1_becomes_44 : decode cX1_becomes 44 = .ok (.if_icmp .ge 23, 3) := by decide +kernel
theorem dX1_becomes_47 : decode cX1_becomes 47 = .ok (.aload_n 0, 1) := by decide +kernel
theorem dX1_becomes_48 : decode cX1_becomes 48 = .ok (.getfield 15, 3) := by decide +kernel
theorem dX1_becomes_51 : decode cX1_becomes 51 = .ok (.iload_n 3, 1) := by decide +kernel
theorem dX1_becomes_52 : decode cX1_becomes 52 = .ok (.iaload, 1) := by decide +kernel
theorem dX1_becomes_53 : decode cX1_becomes 53 = .ok (.aload_n 1, 1) := by decide +kernel
theorem dX1_becomes_54 : decode cX1_becomes 54 = .ok (.iload_n 3, 1) := by decide +kernel
theorem dX1_becomes_55 : decode cX1_becomes 55 = .ok (.iaload, 1) := by decide +kernel
theorem dX1_becomes_56 : decode cX1_becomes 56 = .ok (.if_icmp .eq 5, 3) := by decide +kernel
theorem dX1_becomes_59 : decode cX1_becomes 59 = .ok (.iconst 0, 1) := by decide +kernel
theorem dX1_becomes_60 : decode cX1_becomes 60 = .ok (.ireturn, 1) := by decide +kernel
theorem dX1_becomes_61 : decode cX1_becomes 61 = .ok (.iinc 3 1, 3) := by decide +kernel
theorem dX1_becomes_64 : decode cX1_becomes 64 = .ok (.goto (-28), 3) := by decide +kernel
theorem dX1_becomes_67 : decode cX1_becomes 67 = .ok (.iconst 1, 1) := by decide +kernel
theorem dX1_becomes_68 : decode cX1_becomes 68 = .ok (.ireturn, 1) := by decide +kernel
theorem dX2_init_0 : decode cX2_init 0 = .ok (.aload_n 0, 1) := by decide +kernel
theorem dX2_init_1 : decode cX2_init 1 = .ok (.invokespecial 3, 3) := by decide +kernel
theorem dX2_init_4 : decode cX2_init 4 = .ok (.aload_n 0, 1) := by decide +kernel
theorem dX2_init_5 : decode cX2_init 5 = .ok (.bipush 8, 2) := by decide +kernel
theorem dX2_init_7 : decode cX2_init 7 = .ok (.newarray .int, 2) := by decide +kernel
theorem dX2_init_9 : decode cX2_init 9 = .ok (.putfield 9, 3) := by decide +kernel
theorem dX2_init_12 : decode cX2_init 12 = .ok (.aload_n 0, 1) := by decide +kernel
theorem dX2_init_13 : decode cX2_init 13 = .ok (.bipush 8, 2) := by decide +kernel
theorem dX2_init_15 : decode cX2_init 15 = .ok (.newarray .int, 2) := by decide +kernel
theorem dX2_init_17 : decode cX2_init 17 = .ok (.putfield 15, 3) := by decide +kernel
theorem dX2_init_20 : decode cX2_init 20 = .ok (.aload_n 0, 1) := by decide +kernel
theorem dX2_init_21 : decode cX2_init 21 = .ok (.iconst 3, 1) := by decide +kernel
theorem dX2_init_22 : decode cX2_init 22 = .ok (.newarray .int, 2) := by decide +kernel
theorem dX2_init_24 : decode cX2_init 24 = .ok (.putfield 18, 3) := by decide +kernel
theorem dX2_init_27 : decode cX2_init 27 = .ok (.aload_n 0, 1) := by decide +kernel
theorem dX2_init_28 : decode cX2_init 28 = .ok (.iconst 3, 1) := by decide +kernel
theorem dX2_init_29 : decode cX2_init 29 = .ok (.newarray .int, 2) := by decide +kernel
theorem dX2_init_31 : decode cX2_init 31 = .ok (.putfield 21, 3) := by decide +kernel
theorem dX2_init_34 : decode cX2_init 34 = .ok (.aload_n 0, 1) := by decide +kernel
theorem dX2_init_35 : decode cX2_init 35 = .ok (.iconst 0, 1) := by decide +kernel
theorem dX2_init_36 : decode cX2_init 36 = .ok (.putfield 24, 3) := by decide +kernel
theorem dX2_init_39 : decode cX2_init 39 = .ok (.aload_n 0, 1) := by decide +kernel
theorem dX2_init_40 : decode cX2_init 40 = .ok (.iconst 0, 1) := by decide +kernel
theorem dX2_init_41 : decode cX2_init 41 = .ok (.putfield 28, 3) := by decide +kernel
theorem dX2_init_44 : decode cX2_init 44 = .ok (.aload_n 0, 1) := by decide +kernel
theorem dX2_init_45 : decode cX2_init 45 = .ok (.iconst 0, 1) := by decide +kernel
theorem dX2_init_46 : decode cX2_init 46 = .ok (.putfield 31, 3) := by decide +kernel
theorem dX2_init_49 : decode cX2_init 49 = .ok (.aload_n 0, 1) := by decide +kernel
theorem dX2_init_50 : decode cX2_init 50 = .ok (.iconst 0, 1) := by decide +kernel
theorem dX2_init_51 : decode cX2_init 51 = .ok (.putfield 34, 3) := by decide +kernel
theorem dX2_init_54 : decode cX2_init 54 = .ok (.aload_n 0, 1) := by decide +kernel
theorem dX2_init_55 : decode cX2_init 55 = .ok (.aload_n 1, 1) := by decide +kernel
theorem dX2_init_56 : decode cX2_init 56 = .ok (.putfield 37, 3) := by decide +kernel
theorem dX2_init_59 : decode cX2_init 59 = .ok (.aload_n 0, 1) := by decide +kernel
theorem dX2_init_60 : decode cX2_init 60 = .ok (.aload_n 2, 1) := by decide +kernel
theorem dX2_init_61 : decode cX2_init 61 = .ok (.putfield 41, 3) := by decide +kernel
theorem dX2_init_64 : decode cX2_init 64 = .ok (.return_, 1) := by decide +kernel
theorem dX2_search_0 : decode cX2_search 0 = .ok (.aload_n 1, 1) := by decide +kernel
theorem dX2_search_1 : decode cX2_search 1 = .ok (.aload_n 0, 1) := by decide +kernel
theorem dX2_search_2 : decode cX2_search 2 = .ok (.getfield 9, 3) := by decide +kernel
theorem dX2_search_5 : decode cX2_search 5 = .ok (.invokestatic 45, 3) := by decide +kernel
theorem dX2_search_8 : decode cX2_search 8 = .ok (.aload_n 0, 1) := by decide +kernel
theorem dX2_search_9 : decode cX2_search 9 = .ok (.iload_n 2, 1) := by decide +kernel
theorem dX2_search_10 : decode cX2_search 10 = .ok (.putfield 28, 3) := by decide +kernel
theorem dX2_search_13 : decode cX2_search 13 = .ok (.aload_n 0, 1) := by decide +kernel
theorem dX2_search_14 : decode cX2_search 14 = .ok (.iload_n 3, 1) := by decide +kernel
theorem dX2_search_15 : decode cX2_search 15 = .ok (.putfield 31, 3) := by decide +kernel
theorem dX2_search_18 : decode cX2_search 18 = .ok (.aload_n 0, 1) := by decide +kernel
theorem dX2_search_19 : decode cX2_search 19 = .ok (.iload 4, 2) := by decide +kernel
theorem dX2_search_21 : decode cX2_search 21 = .ok (.iconst 3, 1) := by decide +kernel
theorem dX2_search_22 : decode cX2_search 22 = .ok (.invokestatic 49, 3) := by decide +kernel
theorem dX2_search_25 : decode cX2_search 25 = .ok (.putfield 34, 3) := by decide +kernel
theorem dX2_search_28 : decode cX2_search 28 = .ok (.aload_n 0, 1) := by decide +kernel
theorem dX2_search_29 : decode cX2_search 29 = .ok (.ldc 55, 2) := by decide +kernel
theorem dX2_search_31 : decode cX2_search 31 = .ok (.putfield 24, 3) := by decide +kernel
theorem dX2_search_34 : decode cX2_search 34 = .ok (.aload_n 0, 1) := by decide +kernel
theorem dX2_search_35 : decode cX2_search 35 = .ok (.iconst 0, 1) := by decide +kernel
theorem dX2_search_36 : decode cX2_search 36 = .ok (.iconst 0, 1) := by decide +kernel
theorem dX2_search_37 : decode cX2_search 37 = .ok (.invokevirtual 56, 3) := by decide +kernel
theorem dX2_search_40 : decode cX2_search 40 = .ok (.aload_n 0, 1) := by decide +kernel
theorem dX2_search_41 : decode cX2_search 41 = .ok (.getfield 24, 3) := by decide +kernel
theorem dX2_search_44 : decode cX2_search 44 = .ok (.ldc 55, 2) := by decide +kernel
theorem dX2_search_46 : decode cX2_search 46 = .ok (.if_icmp .eq 7, 3) := by decide +kernel
theorem dX2_search_49 : decode cX2_search 49 = .ok (.iconst 1, 1) := by decide +kernel
theorem dX2_search_50 : decode cX2_search 50 = .ok (.goto 4, 3) := by decide +kernel
theorem dX2_search_53 : decode cX2_search 53 = .ok (.iconst 0, 1) := by decide +kernel
theorem dX2_search_54 : decode cX2_search 54 = .ok (.ireturn, 1) := by decide +kernel
theorem dX2_choose_0 : decode cX2_choose 0 = .ok (.iload_n 1, 1) := by decide +kernel
theorem dX2_choose_1 : decode cX2_choose 1 = .ok (.aload_n 0, 1) := by decide +kernel
theorem dX2_choose_2 : decode cX2_choose 2 = .ok (.getfield 34, 3) := by decide +kernel
theorem dX2_choose_5 : decode cX2_choose 5 = .ok (.if_icmp .lt 8, 3) := by decide +kernel
theorem dX2_choose_8 : decode cX2_choose 8 = .ok (.aload_n 0, 1) := by decide +kernel
theorem dX2_choose_9 : decode cX2_choose 9 = .ok (.invokevirtual 60, 3) := by decide +kernel
theorem dX2_choose_12 : decode cX2_choose 12 = .ok (.return_, 1) := by decide +kernel
theorem dX2_choose_13 : decode cX2_choose 13 = .ok (.iload_n 2, 1) := by decide +kernel
theorem dX2_choose_14 : decode cX2_choose 14 = .ok (.istore_n 3, 1) := by decide +kernel
theorem dX2_choose_15 : decode cX2_choose 15 = .ok (.iload_n 3, 1) := by decide +kernel
theorem dX2_choose_16 : decode cX2_choose 16 = .ok (.aload_n 0, 1) := by decide +kernel
theorem dX2_choose_17 : decode cX2_choose 17 = .ok (.getfield 37, 3) := by decide +kernel
theorem dX2_choose_20 : decode cX2_choose 20 = .ok (.getfield 63, 3) := by decide +kernel
theorem dX2_choose_23 : decode cX2_choose 23 = .ok (.if_icmp .ge 58, 3) := by decide +kernel
theorem dX2_choose_26 : decode cX2_choose 26 = .ok (.aload_n 0, 1) := by decide +kernel
theorem dX2_choose_27 : decode cX2_choose 27 = .ok (.getfield 37, 3) := by decide +kernel
theorem dX2_choose_30 : decode cX2_choose 30 = .ok (.getfield 68, 3) := by decide +kernel
theorem dX2_choose_33 : decode cX2_choose 33 = .ok (.iload_n 3, 1) := by decide +kernel
theorem dX2_choose_34 : decode cX2_choose 34 = .ok (.baload, 1) := by decide +kernel
theorem dX2_choose_35 : decode cX2_choose 35 = .ok (.ifCond .ne 40, 3) := by decide +kernel
theorem dX2_choose_38 : decode cX2_choose 38 = .ok (.aload_n 0, 1) := by decide +kernel
theorem dX2_choose_39 : decode cX2_choose 39 = .ok (.getfield 18, 3) := by decide +kernel
theorem dX2_choose_42 : decode cX2_choose 42 = .ok (.iload_n 1, 1) := by decide +kernel
theorem dX2_choose_43 : decode cX2_choose 43 = .ok (.iload_n 3, 1) := by decide +kernel
theorem dX2_choose_44 : decode cX2_choose 44 = .ok (.iastore, 1) := by decide +kernel
theorem dX2_choose_45 : decode cX2_choose 45 = .ok (.aload_n 0, 1) := by decide +kernel
theorem dX2_choose_46 : decode cX2_choose 46 = .ok (.getfield 41, 3) := by decide +kernel
theorem dX2_choose_49 : decode cX2_choose 49 = .ok (.getfield 72, 3) := by decide +kernel
theorem dX2_choose_52 : decode cX2_choose 52 = .ok (.iload_n 3, 1) := by decide +kernel
theorem dX2_choose_53 : decode cX2_choose 53 = .ok (.iconst 1, 1) := by decide +kernel
theorem dX2_choose_54 : decode cX2_choose 54 = .ok (.bastore, 1) := by decide +kernel
theorem dX2_choose_55 : decode cX2_choose 55 = .ok (.aload_n 0, 1) := by decide +kernel
theorem dX2_choose_56 : decode cX2_choose 56 = .ok (.iload_n 1, 1) := by decide +kernel
theorem dX2_choose_57 : decode cX2_choose 57 = .ok (.iconst 1, 1) := by decide +kernel
theorem dX2_choose_58 : decode cX2_choose 58 = .ok (.iadd, 1) := by decide +kernel
theorem dX2_choose_59 : decode cX2_choose 59 = .ok (.iload_n 3, 1) := by decide +kernel
theorem dX2_choose_60 : decode cX2_choose 60 = .ok (.iconst 1, 1) := by decide +kernel
theorem dX2_choose_61 : decode cX2_choose 61 = .ok (.iadd, 1) := by decide +kernel
theorem dX2_choose_62 : decode cX2_choose 62 = .ok (.invokevirtual 56, 3) := by decide +kernel
theorem dX2_choose_65 : decode cX2_choose 65 = .ok (.aload_n 0, 1) := by decide +kernel
theorem dX2_choose_66 : decode cX2_choose 66 = .ok (.getfield 41, 3) := by decide +kernel
theorem dX2_choose_69 : decode cX2_choose 69 = .ok (.getfield 72, 3) := by decide +kernel
theorem dX2_choose_72 : decode cX2_choose 72 = .ok (.iload_n 3, 1) := by decide +kernel
theorem dX2_choose_73 : decode cX2_choose 73 = .ok (.iconst 0, 1) := by decide +kernel
theorem dX2_choose_74 : decode cX2_choose 74 = .ok (.bastore, 1) := by decide +kernel
theorem dX2_choose_75 : decode cX2_choose 75 = .ok (.iinc 3 1, 3) := by decide +kernel
theorem dX2_choose_78 : decode cX2_choose 78 = .ok (.goto (-63), 3) := by decide +kernel
theorem dX2_choose_81 : decode cX2_choose 81 = .ok (.return_, 1) := by decide +kernel
theorem dX2_weigh_0 : decode cX2_weigh 0 = .ok (.aload_n 0, 1) := by decide +kernel
theorem dX2_weigh_1 : decode cX2_weigh 1 = .ok (.getfield 9, 3) := by decide +kernel
theorem dX2_weigh_4 : decode cX2_weigh 4 = .ok (.aload_n 0, 1) := by decide +kernel
theorem dX2_weigh_5 : decode cX2_weigh 5 = .ok (.getfield 15, 3) := by decide +kernel
theorem dX2_weigh_8 : decode cX2_weigh 8 = .ok (.invokestatic 45, 3) := by decide +kernel
theorem dX2_weigh_11 : decode cX2_weigh 11 = .ok (.aload_n 0, 1) := by decide +kernel
theorem dX2_weigh_12 : decode cX2_weigh 12 = .ok (.getfield 41, 3) := by decide +kernel
theorem dX2_weigh_15 : decode cX2_weigh 15 = .ok (.aload_n 0, 1) := by decide +kernel
theorem dX2_weigh_16 : decode cX2_weigh 16 = .ok (.getfield 37, 3) := by decide +kernel
theorem dX2_weigh_19 : decode cX2_weigh 19 = .ok (.getfield 77, 3) := by decide +kernel
theorem dX2_weigh_22 : decode cX2_weigh 22 = .ok (.aload_n 0, 1) := by decide +kernel
theorem dX2_weigh_23 : decode cX2_weigh 23 = .ok (.getfield 15, 3) := by decide +kernel
theorem dX2_weigh_26 : decode cX2_weigh 26 = .ok (.aload_n 0, 1) := by decide +kernel
theorem dX2_weigh_27 : decode cX2_weigh 27 = .ok (.getfield 28, 3) := by decide +kernel
theorem dX2_weigh_30 : decode cX2_weigh 30 = .ok (.aload_n 0, 1) := by decide +kernel
theorem dX2_weigh_31 : decode cX2_weigh 31 = .ok (.getfield 31, 3) := by decide +kernel
theorem dX2_weigh_34 : decode cX2_weigh 34 = .ok (.aload_n 0, 1) := by decide +kernel
theorem dX2_weigh_35 : decode cX2_weigh 35 = .ok (.getfield 24, 3) := by decide +kernel
theorem dX2_weigh_38 : decode cX2_weigh 38 = .ok (.invokevirtual 80, 3) := by decide +kernel
theorem dX2_weigh_41 : decode cX2_weigh 41 = .ok (.istore_n 1, 1) := by decide +kernel
theorem dX2_weigh_42 : decode cX2_weigh 42 = .ok (.iload_n 1, 1) := by decide +kernel
theorem dX2_weigh_43 : decode cX2_weigh 43 = .ok (.aload_n 0, 1) := by decide +kernel
theorem dX2_weigh_44 : decode cX2_weigh 44 = .ok (.getfield 24, 3) := by decide +kernel
theorem dX2_weigh_47 : decode cX2_weigh 47 = .ok (.if_icmp .ge 22, 3) := by decide +kernel
theorem dX2_weigh_50 : decode cX2_weigh 50 = .ok (.aload_n 0, 1) := by decide +kernel
theorem dX2_weigh_51 : decode cX2_weigh 51 = .ok (.iload_n 1, 1) := by decide +kernel
theorem dX2_weigh_52 : decode cX2_weigh 52 = .ok (.putfield 24, 3) := by decide +kernel
theorem dX2_weigh_55 : decode cX2_weigh 55 = .ok (.aload_n 0, 1) := by decide +kernel
theorem dX2_weigh_56 : decode cX2_weigh 56 = .ok (.getfield 18, 3) := by decide +kernel
theorem dX2_weigh_59 : decode cX2_weigh 59 = .ok (.iconst 0, 1) := by decide +kernel
theorem dX2_weigh_60 : decode cX2_weigh 60 = .ok (.aload_n 0, 1) := by decide +kernel
theorem dX2_weigh_61 : decode cX2_weigh 61 = .ok (.getfield 21, 3) := by decide +kernel
theorem dX2_weigh_64 : decode cX2_weigh 64 = .ok (.iconst 0, 1) := by decide +kernel
theorem dX2_weigh_65 : decode cX2_weigh 65 = .ok (.iconst 3, 1) := by decide +kernel
theorem dX2_weigh_66 : decode cX2_weigh 66 = .ok (.invokestatic 84, 3) := by decide +kernel
theorem dX2_weigh_69 : decode cX2_weigh 69 = .ok (.return_, 1) := by decide +kernel
theorem dX3_init_0 : decode cX3_init 0 = .ok (.aload_n 0, 1) := by decide +kernel
theorem dX3_init_1 : decode cX3_init 1 = .ok (.invokespecial 3, 3) := by decide +kernel
theorem dX3_init_4 : decode cX3_init 4 = .ok (.aload_n 0, 1) := by decide +kernel
theorem dX3_init_5 : decode cX3_init 5 = .ok (.bipush 8, 2) := by decide +kernel
theorem dX3_init_7 : decode cX3_init 7 = .ok (.newarray .int, 2) := by decide +kernel
theorem dX3_init_9 : decode cX3_init 9 = .ok (.putfield 9, 3) := by decide +kernel
theorem dX3_init_12 : decode cX3_init 12 = .ok (.aload_n 0, 1) := by decide +kernel
theorem dX3_init_13 : decode cX3_init 13 = .ok (.bipush 8, 2) := by decide +kernel
theorem dX3_init_15 : decode cX3_init 15 = .ok (.newarray .int, 2) := by decide +kernel
theorem dX3_init_17 : decode cX3_init 17 = .ok (.putfield 15, 3) := by decide +kernel
theorem dX3_init_20 : decode cX3_init 20 = .ok (.aload_n 0, 1) := by decide +kernel
theorem dX3_init_21 : decode cX3_init 21 = .ok (.iconst 0, 1) := by decide +kernel
theorem dX3_init_22 : decode cX3_init 22 = .ok (.putfield 18, 3) := by decide +kernel
theorem dX3_init_25 : decode cX3_init 25 = .ok (.aload_n 0, 1) := by decide +kernel
theorem dX3_init_26 : decode cX3_init 26 = .ok (.iconst 0, 1) := by decide +kernel
theorem dX3_init_27 : decode cX3_init 27 = .ok (.putfield 22, 3) := by decide +kernel
theorem dX3_init_30 : decode cX3_init 30 = .ok (.aload_n 0, 1) := by decide +kernel
theorem dX3_init_31 : decode cX3_init 31 = .ok (.iconst 0, 1) := by decide +kernel
theorem dX3_init_32 : decode cX3_init 32 = .ok (.putfield 25, 3) := by decide +kernel
theorem dX3_init_35 : decode cX3_init 35 = .ok (.aload_n 0, 1) := by decide +kernel
theorem dX3_init_36 : decode cX3_init 36 = .ok (.aload_n 1, 1) := by decide +kernel
theorem dX3_init_37 : decode cX3_init 37 = .ok (.putfield 28, 3) := by decide +kernel
theorem dX3_init_40 : decode cX3_init 40 = .ok (.aload_n 0, 1) := by decide +kernel
theorem dX3_init_41 : decode cX3_init 41 = .ok (.aload_n 2, 1) := by decide +kernel
theorem dX3_init_42 : decode cX3_init 42 = .ok (.putfield 32, 3) := by decide +kernel
theorem dX3_init_45 : decode cX3_init 45 = .ok (.return_, 1) := by decide +kernel
theorem dX3_findExchange_0 : decode cX3_findExchange 0 = .ok (.aload_n 1, 1) := by decide +kernel
theorem dX3_findExchange_1 : decode cX3_findExchange 1 = .ok (.aload_n 0, 1) := by decide +kernel
theorem dX3_findExchange_2 : decode cX3_findExchange 2 = .ok (.getfield 9, 3) := by decide +kernel
theorem dX3_findExchange_5 : decode cX3_findExchange 5 = .ok (.invokestatic 36, 3) := by decide +kernel
theorem dX3_findExchange_8 : decode cX3_findExchange 8 = .ok (.aload_n 0, 1) := by decide +kernel
theorem dX3_findExchange_9 : decode cX3_findExchange 9 = .ok (.iconst (-1), 1) := by decide +kernel
theorem dX3_findExchange_10 : decode cX3_findExchange 10 = .ok (.iload_n 2, 1) := by decide +kernel
theorem dX3_findExchange_11 : decode cX3_findExchange 11 = .ok (.invokevirtual 40, 3) := by decide +kernel
theorem dX3_findExchange_14 : decode cX3_findExchange 14 = .ok (.istore_n 3, 1) := by decide +kernel
theorem dX3_findExchange_15 : decode cX3_findExchange 15 = .ok (.iconst 0, 1) := by decide +kernel
theorem dX3_findExchange_16 : decode cX3_findExchange 16 = .ok (.istore 4, 2) := by decide +kernel
theorem dX3_findExchange_18 : decode cX3_findExchange 18 = .ok (.iload 4, 2) := by decide +kernel
theorem dX3_findExchange_20 : decode cX3_findExchange 20 = .ok (.aload_n 0, 1) := by decide +kernel
theorem dX3_findExchange_21 : decode cX3_findExchange 21 = .ok (.getfield 28, 3) := by decide +kernel
theorem dX3_findExchange_24 : decode cX3_findExchange 24 = .ok (.getfield 44, 3) := by decide +kernel
theorem dX3_findExchange_27 : decode cX3_findExchange 27 = .ok (.if_icmp .ge 83, 3) := by decide +kernel
theorem dX3_findExchange_30 : decode cX3_findExchange 30 = .ok (.iload 4, 2) := by decide +kernel
theorem dX3_findExchange_32 : decode cX3_findExchange 32 = .ok (.iconst 1, 1) := by decide +kernel
theorem dX3_findExchange_33 : decode cX3_findExchange 33 = .ok (.iadd, 1) := by decide +kernel
theorem dX3_findExchange_34 : decode cX3_findExchange 34 = .ok (.istore 5, 2) := by decide +kernel
theorem dX3_findExchange_36 : decode cX3_findExchange 36 = .ok (.iload 5, 2) := by decide +kernel
theorem dX3_findExchange_38 : decode cX3_findExchange 38 = .ok (.aload_n 0, 1) := by decide +kernel
theorem dX3_findExchange_39 : decode cX3_findExchange 39 = .ok (.getfield 28, 3) := by decide +kernel
theorem dX3_findExchange_42 : decode cX3_findExchange 42 = .ok (.getfield 44, 3) := by decide +kernel
theorem dX3_findExchange_45 : decode cX3_findExchange 45 = .ok (.if_icmp .ge 59, 3) := by decide +kernel
theorem dX3_findExchange_48 : decode cX3_findExchange 48 = .ok (.aload_n 0, 1) := by decide +kernel
theorem dX3_findExchange_49 : decode cX3_findExchange 49 = .ok (.getfield 9, 3) := by decide +kernel
theorem dX3_findExchange_52 : decode cX3_findExchange 52 = .ok (.iload 4, 2) := by decide +kernel
theorem dX3_findExchange_54 : decode cX3_findExchange 54 = .ok (.iload 5, 2) := by decide +kernel
theorem dX3_findExchange_56 : decode cX3_findExchange 56 = .ok (.invokestatic 49, 3) := by decide +kernel
theorem dX3_findExchange_59 : decode cX3_findExchange 59 = .ok (.aload_n 0, 1) := by decide +kernel
theorem dX3_findExchange_60 : decode cX3_findExchange 60 = .ok (.iconst (-1), 1) := by decide +kernel
theorem dX3_findExchange_61 : decode cX3_findExchange 61 = .ok (.iload_n 2, 1) := by decide +kernel
theorem dX3_findExchange_62 : decode cX3_findExchange 62 = .ok (.invokevirtual 40, 3) := by decide +kernel
theorem dX3_findExchange_65 : decode cX3_findExchange 65 = .ok (.istore 6, 2) := by decide +kernel
theorem dX3_findExchange_67 : decode cX3_findExchange 67 = .ok (.aload_n 0, 1) := by decide +kernel
theorem dX3_findExchange_68 : decode cX3_findExchange 68 = .ok (.getfield 9, 3) := by decide +kernel
theorem dX3_findExchange_71 : decode cX3_findExchange 71 = .ok (.iload 4, 2) := by decide +kernel
theorem dX3_findExchange_73 : decode cX3_findExchange 73 = .ok (.iload 5, 2) := by decide +kernel
theorem dX3_findExchange_75 : decode cX3_findExchange 75 = .ok (.invokestatic 49, 3) := by decide +kernel
theorem dX3_findExchange_78 : decode cX3_findExchange 78 = .ok (.iload 6, 2) := by decide +kernel
theorem dX3_findExchange_80 : decode cX3_findExchange 80 = .ok (.iload_n 3, 1) := by decide +kernel
theorem dX3_findExchange_81 : decode cX3_findExchange 81 = .ok (.if_icmp .ge 17, 3) := by decide +kernel
theorem dX3_findExchange_84 : decode cX3_findExchange 84 = .ok (.aload_n 0, 1) := by decide +kernel
theorem dX3_findExchange_85 : decode cX3_findExchange 85 = .ok (.iload 4, 2) := by decide +kernel
theorem dX3_findExchange_87 : decode cX3_findExchange 87 = .ok (.putfield 18, 3) := by decide +kernel
theorem dX3_findExchange_90 : decode cX3_findExchange 90 = .ok (.aload_n 0, 1) := by decide +kernel
theorem dX3_findExchange_91 : decode cX3_findExchange 91 = .ok (.iload 5, 2) := by decide +kernel
theorem dX3_findExchange_93 : decode cX3_findExchange 93 = .ok (.putfield 22, 3) := by decide +kernel
theorem dX3_findExchange_96 : decode cX3_findExchange 96 = .ok (.iconst 1, 1) := by decide +kernel
theorem dX3_findExchange_97 : decode cX3_findExchange 97 = .ok (.ireturn, 1) := by decide +kernel
theorem dX3_findExchange_98 : decode cX3_findExchange 98 = .ok (.iinc 5 1, 3) := by decide +kernel
theorem dX3_findExchange_101 : decode cX3_findExchange 101 = .ok (.goto (-65), 3) := by decide +kernel
theorem dX3_findExchange_104 : decode cX3_findExchange 104 = .ok (.iinc 4 1, 3) := by decide +kernel
theorem dX3_findExchange_107 : decode cX3_findExchange 107 = .ok (.goto (-89), 3) := by decide +kernel
theorem dX3_findExchange_110 : decode cX3_findExchange 110 = .ok (.iconst 0, 1) := by decide +kernel
theorem dX3_findExchange_111 : decode cX3_findExchange 111 = .ok (.ireturn, 1) := by decide +kernel
theorem dX3_settle_0 : decode cX3_settle 0 = .ok (.aload_n 1, 1) := by decide +kernel
theorem dX3_settle_1 : decode cX3_settle 1 = .ok (.aload_n 0, 1) := by decide +kernel
theorem dX3_settle_2 : decode cX3_settle 2 = .ok (.getfield 9, 3) := by decide +kernel
theorem dX3_settle_5 : decode cX3_settle 5 = .ok (.invokestatic 36, 3) := by decide +kernel
theorem dX3_settle_8 : decode cX3_settle 8 = .ok (.aload_n 0, 1) := by decide +kernel
theorem dX3_settle_9 : decode cX3_settle 9 = .ok (.iconst 0, 1) := by decide +kernel
theorem dX3_settle_10 : decode cX3_settle 10 = .ok (.putfield 25, 3) := by decide +kernel
theorem dX3_settle_13 : decode cX3_settle 13 = .ok (.iconst 0, 1) := by decide +kernel
theorem dX3_settle_14 : decode cX3_settle 14 = .ok (.istore_n 3, 1) := by decide +kernel
theorem dX3_settle_15 : decode cX3_settle 15 = .ok (.iconst 0, 1) := by decide +kernel
theorem dX3_settle_16 : decode cX3_settle 16 = .ok (.istore 4, 2) := by decide +kernel
theorem dX3_settle_18 : decode cX3_settle 18 = .ok (.iload 4, 2) := by decide +kernel
theorem dX3_settle_20 : decode cX3_settle 20 = .ok (.bipush 82, 2) := by decide +kernel
theorem dX3_settle_22 : decode cX3_settle 22 = .ok (.if_icmp .ge 53, 3) := by decide +kernel
theorem dX3_settle_25 : decode cX3_settle 25 = .ok (.iload_n 3, 1) := by decide +kernel
theorem dX3_settle_26 : decode cX3_settle 26 = .ok (.iconst 2, 1) := by decide +kernel
theorem dX3_settle_27 : decode cX3_settle 27 = .ok (.if_icmp .ge 48, 3) := by decide +kernel
theorem dX3_settle_30 : decode cX3_settle 30 = .ok (.aload_n 0, 1) := by decide +kernel
theorem dX3_settle_31 : decode cX3_settle 31 = .ok (.getfield 25, 3) := by decide +kernel
theorem dX3_settle_34 : decode cX3_settle 34 = .ok (.bipush 40, 2) := by decide +kernel
theorem dX3_settle_36 : decode cX3_settle 36 = .ok (.if_icmp .ge 39, 3) := by decide +kernel
theorem dX3_settle_39 : decode cX3_settle 39 = .ok (.aload_n 0, 1) := by decide +kernel
theorem dX3_settle_40 : decode cX3_settle 40 = .ok (.iload 4, 2) := by decide +kernel
theorem dX3_settle_42 : decode cX3_settle 42 = .ok (.iconst 2, 1) := by decide +kernel
theorem dX3_settle_43 : decode cX3_settle 43 = .ok (.irem, 1) := by decide +kernel
theorem dX3_settle_44 : decode cX3_settle 44 = .ok (.iload_n 2, 1) := by decide +kernel
theorem dX3_settle_45 : decode cX3_settle 45 = .ok (.invokevirtual 53, 3) := by decide +kernel
theorem dX3_settle_48 : decode cX3_settle 48 = .ok (.ifCond .eq 18, 3) := by decide +kernel
theorem dX3_settle_51 : decode cX3_settle 51 = .ok (.aload_n 0, 1) := by decide +kernel
theorem dX3_settle_52 : decode cX3_settle 52 = .ok (.dup, 1) := by decide +kernel
theorem dX3_settle_53 : decode cX3_settle 53 = .ok (.getfield 25, 3) := by decide +kernel
theorem dX3_settle_56 : decode cX3_settle 56 = .ok (.iconst 1, 1) := by decide +kernel
theorem dX3_settle_57 : decode cX3_settle 57 = .ok (.iadd, 1) := by decide +kernel
theorem dX3_settle_58 : decode cX3_settle 58 = .ok (.putfield 25, 3) := by decide +kernel
theorem dX3_settle_61 : decode cX3_settle 61 = .ok (.iconst 0, 1) := by decide +kernel
theorem dX3_settle_62 : decode cX3_settle 62 = .ok (.istore_n 3, 1) := by decide +kernel
theorem dX3_settle_63 : decode cX3_settle 63 = .ok (.goto 6, 3) := by decide +kernel
theorem dX3_settle_66 : decode cX3_settle 66 = .ok (.iinc 3 1, 3) := by decide +kernel
theorem dX3_settle_69 : decode cX3_settle 69 = .ok (.iinc 4 1, 3) := by decide +kernel
theorem dX3_settle_72 : decode cX3_settle 72 = .ok (.goto (-54), 3) := by decide +kernel
theorem dX3_settle_75 : decode cX3_settle 75 = .ok (.return_, 1) := by decide +kernel
theorem dX3_changeBest_0 : decode cX3_changeBest 0 = .ok (.aload_n 0, 1) := by decide +kernel
theorem dX3_changeBest_1 : decode cX3_changeBest 1 = .ok (.iload_n 1, 1) := by decide +kernel
theorem dX3_changeBest_2 : decode cX3_changeBest 2 = .ok (.iload_n 2, 1) := by decide +kernel
theorem dX3_changeBest_3 : decode cX3_changeBest 3 = .ok (.invokevirtual 40, 3) := by decide +kernel
theorem dX3_changeBest_6 : decode cX3_changeBest 6 = .ok (.istore_n 3, 1) := by decide +kernel
theorem dX3_changeBest_7 : decode cX3_changeBest 7 = .ok (.iconst 0, 1) := by decide +kernel
theorem dX3_changeBest_8 : decode cX3_changeBest 8 = .ok (.istore 4, 2) := by decide +kernel
theorem dX3_changeBest_10 : decode cX3_changeBest 10 = .ok (.iconst 0, 1) := by decide +kernel
theorem dX3_changeBest_11 : decode cX3_changeBest 11 = .ok (.istore 5, 2) := by decide +kernel
theorem dX3_changeBest_13 : decode cX3_changeBest 13 = .ok (.iload 5, 2) := by decide +kernel
theorem dX3_changeBest_15 : decode cX3_changeBest 15 = .ok (.aload_n 0, 1) := by decide +kernel
theorem dX3_changeBest_16 : decode cX3_changeBest 16 = .ok (.getfield 28, 3) := by decide +kernel
theorem dX3_changeBest_19 : decode cX3_changeBest 19 = .ok (.getfield 44, 3) := by decide +kernel
theorem dX3_changeBest_22 : decode cX3_changeBest 22 = .ok (.if_icmp .ge 118, 3) := by decide +kernel
theorem dX3_changeBest_25 : decode cX3_changeBest 25 = .ok (.iload 5, 2) := by decide +kernel
theorem dX3_changeBest_27 : decode cX3_changeBest 27 = .ok (.iconst 1, 1) := by decide +kernel
theorem dX3_changeBest_28 : decode cX3_changeBest 28 = .ok (.iadd, 1) := by decide +kernel
theorem dX3_changeBest_29 : decode cX3_changeBest 29 = .ok (.istore 6, 2) := by decide +kernel
theorem dX3_changeBest_31 : decode cX3_changeBest 31 = .ok (.iload 6, 2) := by decide +kernel
theorem dX3_changeBest_33 : decode cX3_changeBest 33 = .ok (.aload_n 0, 1) := by decide +kernel
theorem dX3_changeBest_34 : decode cX3_changeBest 34 = .ok (.getfield 28, 3) := by decide +kernel
theorem dX3_changeBest_37 : decode cX3_changeBest 37 = .ok (.getfield 44, 3) := by decide +kernel
theorem dX3_changeBest_40 : decode cX3_changeBest 40 = .ok (.if_icmp .ge 94, 3) := by decide +kernel
theorem dX3_changeBest_43 : decode cX3_changeBest 43 = .ok (.aload_n 0, 1) := by decide +kernel
theorem dX3_changeBest_44 : decode cX3_changeBest 44 = .ok (.getfield 28, 3) := by decide +kernel
theorem dX3_changeBest_47 : decode cX3_changeBest 47 = .ok (.getfield 57, 3) := by decide +kernel
theorem dX3_changeBest_50 : decode cX3_changeBest 50 = .ok (.iload 5, 2) := by decide +kernel
theorem dX3_changeBest_52 : decode cX3_changeBest 52 = .ok (.iaload, 1) := by decide +kernel
theorem dX3_changeBest_53 : decode cX3_changeBest 53 = .ok (.iload_n 1, 1) := by decide +kernel
theorem dX3_changeBest_54 : decode cX3_changeBest 54 = .ok (.if_icmp .ne 74, 3) := by decide +kernel
theorem dX3_changeBest_57 : decode cX3_changeBest 57 = .ok (.aload_n 0, 1) := by decide +kernel
theorem dX3_changeBest_58 : decode cX3_changeBest 58 = .ok (.getfield 28, 3) := by decide +kernel
theorem dX3_changeBest_61 : decode cX3_changeBest 61 = .ok (.getfield 57, 3) := by decide +kernel
theorem dX3_changeBest_64 : decode cX3_changeBest 64 = .ok (.iload 6, 2) := by decide +kernel
theorem dX3_changeBest_66 : decode cX3_changeBest 66 = .ok (.iaload, 1) := by decide +kernel
theorem dX3_changeBest_67 : decode cX3_changeBest 67 = .ok (.iload_n 1, 1) := by decide +kernel
theorem dX3_changeBest_68 : decode cX3_changeBest 68 = .ok (.if_icmp .eq 6, 3) := by decide +kernel
theorem dX3_changeBest_71 : decode cX3_changeBest 71 = .ok (.goto 57, 3) := by decide +kernel
theorem dX3_changeBest_74 : decode cX3_changeBest 74 = .ok (.aload_n 0, 1) := by decide +kernel
theorem dX3_changeBest_75 : decode cX3_changeBest 75 = .ok (.getfield 9, 3) := by decide +kernel
theorem dX3_changeBest_78 : decode cX3_changeBest 78 = .ok (.iload 5, 2) := by decide +kernel
theorem dX3_changeBest_80 : decode cX3_changeBest 80 = .ok (.iload 6, 2) := by decide +kernel
theorem dX3_changeBest_82 : decode cX3_changeBest 82 = .ok (.invokestatic 49, 3) := by decide +kernel
theorem dX3_changeBest_85 : decode cX3_changeBest 85 = .ok (.aload_n 0, 1) := by decide +kernel
theorem dX3_changeBest_86 : decode cX3_changeBest 86 = .ok (.iload_n 1, 1) := by decide +kernel
theorem dX3_changeBest_87 : decode cX3_changeBest 87 = .ok (.iload_n 2, 1) := by decide +kernel
theorem dX3_changeBest_88 : decode cX3_changeBest 88 = .ok (.invokevirtual 40, 3) := by decide +kernel
theorem dX3_changeBest_91 : decode cX3_changeBest 91 = .ok (.istore 7, 2) := by decide +kernel
theorem dX3_changeBest_93 : decode cX3_changeBest 93 = .ok (.aload_n 0, 1) := by decide +kernel
theorem dX3_changeBest_94 : decode cX3_changeBest 94 = .ok (.getfield 9, 3) := by decide +kernel
theorem dX3_changeBest_97 : decode cX3_changeBest 97 = .ok (.iload 5, 2) := by decide +kernel
theorem dX3_changeBest_99 : decode cX3_changeBest 99 = .ok (.iload 6, 2) := by decide +kernel
theorem dX3_changeBest_101 : decode cX3_changeBest 101 = .ok (.invokestatic 49, 3) := by decide +kernel
theorem dX3_changeBest_104 : decode cX3_changeBest 104 = .ok (.iload 7, 2) := by decide +kernel
theorem dX3_changeBest_106 : decode cX3_changeBest 106 = .ok (.iload_n 3, 1) := by decide +kernel
theorem dX3_changeBest_107 : decode cX3_changeBest 107 = .ok (.if_icmp .ge 21, 3) := by decide +kernel
theorem dX3_changeBest_110 : decode cX3_changeBest 110 = .ok (.iload 7, 2) := by decide +kernel
theorem dX3_changeBest_112 : decode cX3_changeBest 112 = .ok (.istore_n 3, 1) := by decide +kernel
theorem dX3_changeBest_113 : decode cX3_changeBest 113 = .ok (.aload_n 0, 1) := by decide +kernel
theorem dX3_changeBest_114 : decode cX3_changeBest 114 = .ok (.iload 5, 2) := by decide +kernel
theorem dX3_changeBest_116 : decode cX3_changeBest 116 = .ok (.putfield 18, 3) := by decide +kernel
theorem dX3_changeBest_119 : decode cX3_changeBest 119 = .ok (.aload_n 0, 1) := by decide +kernel
theorem dX3_changeBest_120 : decode cX3_changeBest 120 = .ok (.iload 6, 2) := by decide +kernel
theorem dX3_changeBest_122 : decode cX3_changeBest 122 = .ok (.putfield 22, 3) := by decide +kernel
theorem dX3_changeBest_125 : decode cX3_changeBest 125 = .ok (.iconst 1, 1) := by decide +kernel
theorem dX3_changeBest_126 : decode cX3_changeBest 126 = .ok (.istore 4, 2) := by decide +kernel
theorem dX3_changeBest_128 : decode cX3_changeBest 128 = .ok (.iinc 6 1, 3) := by decide +kernel
theorem dX3_changeBest_131 : decode cX3_changeBest 131 = .ok (.goto (-100), 3) := by decide +kernel
theorem dX3_changeBest_134 : decode cX3_changeBest 134 = .ok (.iinc 5 1, 3) := by decide +kernel
theorem dX3_changeBest_137 : decode cX3_changeBest 137 = .ok (.goto (-124), 3) := by decide +kernel
theorem dX3_changeBest_140 : decode cX3_changeBest 140 = .ok (.iload 4, 2) := by decide +kernel
theorem dX3_changeBest_142 : decode cX3_changeBest 142 = .ok (.ifCond .eq 18, 3) := by decide +kernel
theorem dX3_changeBest_145 : decode cX3_changeBest 145 = .ok (.aload_n 0, 1) := by decide +kernel
theorem dX3_changeBest_146 : decode cX3_changeBest 146 = .ok (.getfield 9, 3) := by decide +kernel
theorem dX3_changeBest_149 : decode cX3_changeBest 149 = .ok (.aload_n 0, 1) := by decide +kernel
theorem dX3_changeBest_150 : decode cX3_changeBest 150 = .ok (.getfield 18, 3) := by decide +kernel
theorem dX3_changeBest_153 : decode cX3_changeBest 153 = .ok (.aload_n 0, 1) := by decide +kernel
theorem dX3_changeBest_154 : decode cX3_changeBest 154 = .ok (.getfield 22, 3) := by decide +kernel
theorem dX3_changeBest_157 : decode cX3_changeBest 157 = .ok (.invokestatic 49, 3) := by decide +kernel
theorem dX3_changeBest_160 : decode cX3_changeBest 160 = .ok (.iload 4, 2) := by decide +kernel
theorem dX3_changeBest_162 : decode cX3_changeBest 162 = .ok (.ireturn, 1) := by decide +kernel
theorem dX3_lossOfRow_0 : decode cX3_lossOfRow 0 = .ok (.aload_n 0, 1) := by decide +kernel
theorem dX3_lossOfRow_1 : decode cX3_lossOfRow 1 = .ok (.getfield 9, 3) := by decide +kernel
theorem dX3_lossOfRow_4 : decode cX3_lossOfRow 4 = .ok (.aload_n 0, 1) := by decide +kernel
theorem dX3_lossOfRow_5 : decode cX3_lossOfRow 5 = .ok (.getfield 15, 3) := by decide +kernel
theorem dX3_lossOfRow_8 : decode cX3_lossOfRow 8 = .ok (.invokestatic 36, 3) := by decide +kernel
theorem dX3_lossOfRow_11 : decode cX3_lossOfRow 11 = .ok (.aload_n 0, 1) := by decide +kernel
theorem dX3_lossOfRow_12 : decode cX3_lossOfRow 12 = .ok (.getfield 32, 3) := by decide +kernel
theorem dX3_lossOfRow_15 : decode cX3_lossOfRow 15 = .ok (.aload_n 0, 1) := by decide +kernel
theorem dX3_lossOfRow_16 : decode cX3_lossOfRow 16 = .ok (.getfield 28, 3) := by decide +kernel
theorem dX3_lossOfRow_19 : decode cX3_lossOfRow 19 = .ok (.getfield 60, 3) := by decide +kernel
theorem dX3_lossOfRow_22 : decode cX3_lossOfRow 22 = .ok (.aload_n 0, 1) := by decide +kernel
theorem dX3_lossOfRow_23 : decode cX3_lossOfRow 23 = .ok (.getfield 15, 3) := by decide +kernel
theorem dX3_lossOfRow_26 : decode cX3_lossOfRow 26 = .ok (.iload_n 2, 1) := by decide +kernel
theorem dX3_lossOfRow_27 : decode cX3_lossOfRow 27 = .ok (.iconst 1, 1) := by decide +kernel
theorem dX3_lossOfRow_28 : decode cX3_lossOfRow 28 = .ok (.ldc 63, 2) := by decide +kernel
theorem dX3_lossOfRow_30 : decode cX3_lossOfRow 30 = .ok (.invokevirtual 64, 3) := by decide +kernel
theorem dX3_lossOfRow_33 : decode cX3_lossOfRow 33 = .ok (.pop, 1) := by decide +kernel
theorem dX3_lossOfRow_34 : decode cX3_lossOfRow 34 = .ok (.aload_n 0, 1) := by decide +kernel
theorem dX3_lossOfRow_35 : decode cX3_lossOfRow 35 = .ok (.getfield 32, 3) := by decide +kernel
theorem dX3_lossOfRow_38 : decode cX3_lossOfRow 38 = .ok (.iload_n 1, 1) := by decide +kernel
theorem dX3_lossOfRow_39 : decode cX3_lossOfRow 39 = .ok (.invokevirtual 70, 3) := by decide +kernel
theorem dX3_lossOfRow_42 : decode cX3_lossOfRow 42 = .ok (.ireturn, 1) := by decide +kernel
theorem dX4_init_0 : decode cX4_init 0 = .ok (.aload_n 0, 1) := by decide +kernel
theorem dX4_init_1 : decode cX4_init 1 = .ok (.invokespecial 3, 3) := by decide +kernel
theorem dX4_init_4 : decode cX4_init 4 = .ok (.aload_n 0, 1) := by decide +kernel
theorem dX4_init_5 : decode cX4_init 5 = .ok (.iconst 5, 1) := by decide +kernel
theorem dX4_init_6 : decode cX4_init 6 = .ok (.bipush 8, 2) := by decide +kernel
theorem dX4_init_8 : decode cX4_init 8 = .ok (.multianewarray 9 2, 4) := by decide +kernel
theorem dX4_init_12 : decode cX4_init 12 = .ok (.putfield 11, 3) := by decide +kernel
theorem dX4_init_15 : decode cX4_init 15 = .ok (.aload_n 0, 1) := by decide +kernel
theorem dX4_init_16 : decode cX4_init 16 = .ok (.iconst 4, 1) := by decide +kernel
theorem dX4_init_17 : decode cX4_init 17 = .ok (.newarray .int, 2) := by decide +kernel
theorem dX4_init_19 : decode cX4_init 19 = .ok (.putfield 16, 3) := by decide +kernel
theorem dX4_init_22 : decode cX4_init 22 = .ok (.aload_n 0, 1) := by decide +kernel
theorem dX4_init_23 : decode cX4_init 23 = .ok (.iconst 4, 1) := by decide +kernel
theorem dX4_init_24 : decode cX4_init 24 = .ok (.newarray .int, 2) := by decide +kernel
theorem dX4_init_26 : decode cX4_init 26 = .ok (.putfield 20, 3) := by decide +kernel
theorem dX4_init_29 : decode cX4_init 29 = .ok (.aload_n 0, 1) := by decide +kernel
theorem dX4_init_30 : decode cX4_init 30 = .ok (.iconst 0, 1) := by decide +kernel
theorem dX4_init_31 : decode cX4_init 31 = .ok (.putfield 23, 3) := by decide +kernel
theorem dX4_init_34 : decode cX4_init 34 = .ok (.aload_n 0, 1) := by decide +kernel
theorem dX4_init_35 : decode cX4_init 35 = .ok (.iconst 0, 1) := by decide +kernel
theorem dX4_init_36 : decode cX4_init 36 = .ok (.putfield 27, 3) := by decide +kernel
theorem dX4_init_39 : decode cX4_init 39 = .ok (.aload_n 0, 1) := by decide +kernel
theorem dX4_init_40 : decode cX4_init 40 = .ok (.iconst 0, 1) := by decide +kernel
theorem dX4_init_41 : decode cX4_init 41 = .ok (.putfield 30, 3) := by decide +kernel
theorem dX4_init_44 : decode cX4_init 44 = .ok (.aload_n 0, 1) := by decide +kernel
theorem dX4_init_45 : decode cX4_init 45 = .ok (.aload_n 1, 1) := by decide +kernel
theorem dX4_init_46 : decode cX4_init 46 = .ok (.putfield 33, 3) := by decide +kernel
theorem dX4_init_49 : decode cX4_init 49 = .ok (.aload_n 0, 1) := by decide +kernel
theorem dX4_init_50 : decode cX4_init 50 = .ok (.aload_n 2, 1) := by decide +kernel
theorem dX4_init_51 : decode cX4_init 51 = .ok (.putfield 37, 3) := by decide +kernel
theorem dX4_init_54 : decode cX4_init 54 = .ok (.return_, 1) := by decide +kernel
theorem dX4_search_0 : decode cX4_search 0 = .ok (.aload_n 0, 1) := by decide +kernel
theorem dX4_search_1 : decode cX4_search 1 = .ok (.iload_n 2, 1) := by decide +kernel
theorem dX4_search_2 : decode cX4_search 2 = .ok (.putfield 30, 3) := by decide +kernel
theorem dX4_search_5 : decode cX4_search 5 = .ok (.aload_n 0, 1) := by decide +kernel
theorem dX4_search_6 : decode cX4_search 6 = .ok (.iconst 0, 1) := by decide +kernel
theorem dX4_search_7 : decode cX4_search 7 = .ok (.putfield 27, 3) := by decide +kernel
theorem dX4_search_10 : decode cX4_search 10 = .ok (.iconst 0, 1) := by decide +kernel
theorem dX4_search_11 : decode cX4_search 11 = .ok (.istore_n 3, 1) := by decide +kernel
theorem dX4_search_12 : decode cX4_search 12 = .ok (.iload_n 3, 1) := by decide +kernel
theorem dX4_search_13 : decode cX4_search 13 = .ok (.aload_n 0, 1) := by decide +kernel
theorem dX4_search_14 : decode cX4_search 14 = .ok (.getfield 33, 3) := by decide +kernel
theorem dX4_search_17 : decode cX4_search 17 = .ok (.getfield 41, 3) := by decide +kernel
theorem dX4_search_20 : decode cX4_search 20 = .ok (.if_icmp .ge 39, 3) := by decide +kernel
theorem dX4_search_23 : decode cX4_search 23 = .ok (.aload_n 0, 1) := by decide +kernel
theorem dX4_search_24 : decode cX4_search 24 = .ok (.getfield 16, 3) := by decide +kernel
theorem dX4_search_27 : decode cX4_search 27 = .ok (.iload_n 3, 1) := by decide +kernel
theorem dX4_search_28 : decode cX4_search 28 = .ok (.iconst 0, 1) := by decide +kernel
theorem dX4_search_29 : decode cX4_search 29 = .ok (.iastore, 1) := by decide +kernel
theorem dX4_search_30 : decode cX4_search 30 = .ok (.aload_n 0, 1) := by decide +kernel
theorem dX4_search_31 : decode cX4_search 31 = .ok (.getfield 33, 3) := by decide +kernel
theorem dX4_search_34 : decode cX4_search 34 = .ok (.getfield 46, 3) := by decide +kernel
theorem dX4_search_37 : decode cX4_search 37 = .ok (.iload_n 3, 1) := by decide +kernel
theorem dX4_search_38 : decode cX4_search 38 = .ok (.iaload, 1) := by decide +kernel
theorem dX4_search_39 : decode cX4_search 39 = .ok (.iload_n 2, 1) := by decide +kernel
theorem dX4_search_40 : decode cX4_search 40 = .ok (.if_icmp .ge 13, 3) := by decide +kernel
theorem dX4_search_43 : decode cX4_search 43 = .ok (.aload_n 0, 1) := by decide +kernel
theorem dX4_search_44 : decode cX4_search 44 = .ok (.dup, 1) := by decide +kernel
theorem dX4_search_45 : decode cX4_search 45 = .ok (.getfield 27, 3) := by decide +kernel
theorem dX4_search_48 : decode cX4_search 48 = .ok (.iconst 1, 1) := by decide +kernel
theorem dX4_search_49 : decode cX4_search 49 = .ok (.iadd, 1) := by decide +kernel
theorem dX4_search_50 : decode cX4_search 50 = .ok (.putfield 27, 3) := by decide +kernel
theorem dX4_search_53 : decode cX4_search 53 = .ok (.iinc 3 1, 3) := by decide +kernel
theorem dX4_search_56 : decode cX4_search 56 = .ok (.goto (-44), 3) := by decide +kernel
theorem dX4_search_59 : decode cX4_search 59 = .ok (.aload_n 0, 1) := by decide +kernel
theorem dX4_search_60 : decode cX4_search 60 = .ok (.ldc 49, 2) := by decide +kernel
theorem dX4_search_62 : decode cX4_search 62 = .ok (.putfield 23, 3) := by decide +kernel
theorem dX4_search_65 : decode cX4_search 65 = .ok (.aload_n 1, 1) := by decide +kernel
theorem dX4_search_66 : decode cX4_search 66 = .ok (.aload_n 0, 1) := by decide +kernel
theorem dX4_search_67 : decode cX4_search 67 = .ok (.getfield 11, 3) := by decide +kernel
theorem dX4_search_70 : decode cX4_search 70 = .ok (.iconst 0, 1) := by decide +kernel
theorem dX4_search_71 : decode cX4_search 71 = .ok (.aaload, 1) := by decide +kernel
theorem dX4_search_72 : decode cX4_search 72 = .ok (.invokestatic 50, 3) := by decide +kernel
theorem dX4_search_75 : decode cX4_search 75 = .ok (.aload_n 0, 1) := by decide +kernel
theorem dX4_search_76 : decode cX4_search 76 = .ok (.iconst 0, 1) := by decide +kernel
theorem dX4_search_77 : decode cX4_search 77 = .ok (.iconst 0, 1) := by decide +kernel
theorem dX4_search_78 : decode cX4_search 78 = .ok (.iconst 0, 1) := by decide +kernel
theorem dX4_search_79 : decode cX4_search 79 = .ok (.invokevirtual 54, 3) := by decide +kernel
theorem dX4_search_82 : decode cX4_search 82 = .ok (.aload_n 0, 1) := by decide +kernel
theorem dX4_search_83 : decode cX4_search 83 = .ok (.getfield 23, 3) := by decide +kernel
theorem dX4_search_86 : decode cX4_search 86 = .ok (.ldc 49, 2) := by decide +kernel
theorem dX4_search_88 : decode cX4_search 88 = .ok (.if_icmp .eq 7, 3) := by decide +kernel
theorem dX4_search_91 : decode cX4_search 91 = .ok (.iconst 1, 1) := by decide +kernel
theorem dX4_search_92 : decode cX4_search 92 = .ok (.goto 4, 3) := by decide +kernel
theorem dX4_search_95 : decode cX4_search 95 = .ok (.iconst 0, 1) := by decide +kernel
theorem dX4_search_96 : decode cX4_search 96 = .ok (.ireturn, 1) := by decide +kernel
theorem dX4_goOn_0 : decode cX4_goOn 0 = .ok (.iload_n 1, 1) := by decide +kernel
theorem dX4_goOn_1 : decode cX4_goOn 1 = .ok (.aload_n 0, 1) := by decide +kernel
theorem dX4_goOn_2 : decode cX4_goOn 2 = .ok (.getfield 27, 3) := by decide +kernel
theorem dX4_goOn_5 : decode cX4_goOn 5 = .ok (.if_icmp .lt 7, 3) := by decide +kernel
theorem dX4_goOn_8 : decode cX4_goOn 8 = .ok (.iconst 1, 1) := by decide +kernel
theorem dX4_goOn_9 : decode cX4_goOn 9 = .ok (.goto 4, 3) := by decide +kernel
theorem dX4_goOn_12 : decode cX4_goOn 12 = .ok (.iconst 0, 1) := by decide +kernel
theorem dX4_goOn_13 : decode cX4_goOn 13 = .ok (.istore 4, 2) := by decide +kernel
theorem dX4_goOn_15 : decode cX4_goOn 15 = .ok (.iload 4, 2) := by decide +kernel
theorem dX4_goOn_17 : decode cX4_goOn 17 = .ok (.ifCond .eq 10, 3) := by decide +kernel
theorem dX4_goOn_20 : decode cX4_goOn 20 = .ok (.aload_n 0, 1) := by decide +kernel
theorem dX4_goOn_21 : decode cX4_goOn 21 = .ok (.getfield 30, 3) := by decide +kernel
theorem dX4_goOn_24 : decode cX4_goOn 24 = .ok (.goto 12, 3) := by decide +kernel
theorem dX4_goOn_27 : decode cX4_goOn 27 = .ok (.aload_n 0, 1) := by decide +kernel
theorem dX4_goOn_28 : decode cX4_goOn 28 = .ok (.getfield 33, 3) := by decide +kernel
theorem dX4_goOn_31 : decode cX4_goOn 31 = .ok (.getfield 46, 3) := by decide +kernel
theorem dX4_goOn_34 : decode cX4_goOn 34 = .ok (.iload_n 1, 1) := by decide +kernel
theorem dX4_goOn_35 : decode cX4_goOn 35 = .ok (.iaload, 1) := by decide +kernel
theorem dX4_goOn_36 : decode cX4_goOn 36 = .ok (.istore 5, 2) := by decide +kernel
theorem dX4_goOn_38 : decode cX4_goOn 38 = .ok (.iload_n 3, 1) := by decide +kernel
theorem dX4_goOn_39 : decode cX4_goOn 39 = .ok (.aload_n 0, 1) := by decide +kernel
theorem dX4_goOn_40 : decode cX4_goOn 40 = .ok (.getfield 37, 3) := by decide +kernel
theorem dX4_goOn_43 : decode cX4_goOn 43 = .ok (.aload_n 0, 1) := by decide +kernel
theorem dX4_goOn_44 : decode cX4_goOn 44 = .ok (.getfield 33, 3) := by decide +kernel
theorem dX4_goOn_47 : decode cX4_goOn 47 = .ok (.getfield 58, 3) := by decide +kernel
theorem dX4_goOn_50 : decode cX4_goOn 50 = .ok (.aload_n 0, 1) := by decide +kernel
theorem dX4_goOn_51 : decode cX4_goOn 51 = .ok (.getfield 11, 3) := by decide +kernel
theorem dX4_goOn_54 : decode cX4_goOn 54 = .ok (.iload_n 1, 1) := by decide +kernel
theorem dX4_goOn_55 : decode cX4_goOn 55 = .ok (.aaload, 1) := by decide +kernel
theorem dX4_goOn_56 : decode cX4_goOn 56 = .ok (.iload_n 2, 1) := by decide +kernel
theorem dX4_goOn_57 : decode cX4_goOn 57 = .ok (.iload 5, 2) := by decide +kernel
theorem dX4_goOn_59 : decode cX4_goOn 59 = .ok (.iload_n 2, 1) := by decide +kernel
theorem dX4_goOn_60 : decode cX4_goOn 60 = .ok (.isub, 1) := by decide +kernel
theorem dX4_goOn_61 : decode cX4_goOn 61 = .ok (.aload_n 0, 1) := by decide +kernel
theorem dX4_goOn_62 : decode cX4_goOn 62 = .ok (.getfield 23, 3) := by decide +kernel
theorem dX4_goOn_65 : decode cX4_goOn 65 = .ok (.iload_n 3, 1) := by decide +kernel
theorem dX4_goOn_66 : decode cX4_goOn 66 = .ok (.isub, 1) := by decide +kernel
theorem dX4_goOn_67 : decode cX4_goOn 67 = .ok (.invokevirtual 61, 3) := by decide +kernel
theorem dX4_goOn_70 : decode cX4_goOn 70 = .ok (.iadd, 1) := by decide +kernel
theorem dX4_goOn_71 : decode cX4_goOn 71 = .ok (.istore 6, 2) := by decide +kernel
theorem dX4_goOn_73 : decode cX4_goOn 73 = .ok (.iload 6, 2) := by decide +kernel
theorem dX4_goOn_75 : decode cX4_goOn 75 = .ok (.aload_n 0, 1) := by decide +kernel
theorem dX4_goOn_76 : decode cX4_goOn 76 = .ok (.getfield 23, 3) := by decide +kernel
theorem dX4_goOn_79 : decode cX4_goOn 79 = .ok (.if_icmp .lt 4, 3) := by decide +kernel
theorem dX4_goOn_82 : decode cX4_goOn 82 = .ok (.return_, 1) := by decide +kernel
theorem dX4_goOn_83 : decode cX4_goOn 83 = .ok (.iload 4, 2) := by decide +kernel
theorem dX4_goOn_85 : decode cX4_goOn 85 = .ok (.ifCond .eq 24, 3) := by decide +kernel
theorem dX4_goOn_88 : decode cX4_goOn 88 = .ok (.aload_n 0, 1) := by decide +kernel
theorem dX4_goOn_89 : decode cX4_goOn 89 = .ok (.iload 6, 2) := by decide +kernel
theorem dX4_goOn_91 : decode cX4_goOn 91 = .ok (.putfield 23, 3) := by decide +kernel
theorem dX4_goOn_94 : decode cX4_goOn 94 = .ok (.aload_n 0, 1) := by decide +kernel
theorem dX4_goOn_95 : decode cX4_goOn 95 = .ok (.getfield 16, 3) := by decide +kernel
theorem dX4_goOn_98 : decode cX4_goOn 98 = .ok (.iconst 0, 1) := by decide +kernel
theorem dX4_goOn_99 : decode cX4_goOn 99 = .ok (.aload_n 0, 1) := by decide +kernel
theorem dX4_goOn_100 : decode cX4_goOn 100 = .ok (.getfield 20, 3) := by decide +kernel
theorem dX4_goOn_103 : decode cX4_goOn 103 = .ok (.iconst 0, 1) := by decide +kernel
theorem dX4_goOn_104 : decode cX4_goOn 104 = .ok (.iconst 4, 1) := by decide +kernel
theorem dX4_goOn_105 : decode cX4_goOn 105 = .ok (.invokestatic 67, 3) := by decide +kernel
theorem dX4_goOn_108 : decode cX4_goOn 108 = .ok (.return_, 1) := by decide +kernel
theorem dX4_goOn_109 : decode cX4_goOn 109 = .ok (.iconst 0, 1) := by decide +kernel
theorem dX4_goOn_110 : decode cX4_goOn 110 = .ok (.istore 7, 2) := by decide +kernel
theorem dX4_goOn_112 : decode cX4_goOn 112 = .ok (.iload 7, 2) := by decide +kernel
theorem dX4_goOn_114 : decode cX4_goOn 114 = .ok (.aload_n 0, 1) := by decide +kernel
theorem dX4_goOn_115 : decode cX4_goOn 115 = .ok (.getfield 33, 3) := by decide +kernel
theorem dX4_goOn_118 : decode cX4_goOn 118 = .ok (.getfield 73, 3) := by decide +kernel
theorem dX4_goOn_121 : decode cX4_goOn 121 = .ok (.if_icmp .ge 93, 3) := by decide +kernel
theorem dX4_goOn_124 : decode cX4_goOn 124 = .ok (.aload_n 0, 1) := by decide +kernel
theorem dX4_goOn_125 : decode cX4_goOn 125 = .ok (.getfield 11, 3) := by decide +kernel
theorem dX4_goOn_128 : decode cX4_goOn 128 = .ok (.iload_n 1, 1) := by decide +kernel
theorem dX4_goOn_129 : decode cX4_goOn 129 = .ok (.aaload, 1) := by decide +kernel
theorem dX4_goOn_130 : decode cX4_goOn 130 = .ok (.iload 7, 2) := by decide +kernel
theorem dX4_goOn_132 : decode cX4_goOn 132 = .ok (.iaload, 1) := by decide +kernel
theorem dX4_goOn_133 : decode cX4_goOn 133 = .ok (.aload_n 0, 1) := by decide +kernel
theorem dX4_goOn_134 : decode cX4_goOn 134 = .ok (.getfield 33, 3) := by decide +kernel
theorem dX4_goOn_137 : decode cX4_goOn 137 = .ok (.getfield 76, 3) := by decide +kernel
theorem dX4_goOn_140 : decode cX4_goOn 140 = .ok (.iload_n 1, 1) := by decide +kernel
theorem dX4_goOn_141 : decode cX4_goOn 141 = .ok (.iaload, 1) := by decide +kernel
theorem dX4_goOn_142 : decode cX4_goOn 142 = .ok (.iadd, 1) := by decide +kernel
theorem dX4_goOn_143 : decode cX4_goOn 143 = .ok (.sipush 199, 3) := by decide +kernel
theorem dX4_goOn_146 : decode cX4_goOn 146 = .ok (.if_icmp .gt 62, 3) := by decide +kernel
theorem dX4_goOn_149 : decode cX4_goOn 149 = .ok (.aload_n 0, 1) := by decide +kernel
theorem dX4_goOn_150 : decode cX4_goOn 150 = .ok (.getfield 16, 3) := by decide +kernel
theorem dX4_goOn_153 : decode cX4_goOn 153 = .ok (.iload_n 1, 1) := by decide +kernel
theorem dX4_goOn_154 : decode cX4_goOn 154 = .ok (.iload 7, 2) := by decide +kernel
theorem dX4_goOn_156 : decode cX4_goOn 156 = .ok (.iastore, 1) := by decide +kernel
theorem dX4_goOn_157 : decode cX4_goOn 157 = .ok (.aload_n 0, 1) := by decide +kernel
theorem dX4_goOn_158 : decode cX4_goOn 158 = .ok (.getfield 11, 3) := by decide +kernel
theorem dX4_goOn_161 : decode cX4_goOn 161 = .ok (.iload_n 1, 1) := by decide +kernel
theorem dX4_goOn_162 : decode cX4_goOn 162 = .ok (.aaload, 1) := by decide +kernel
theorem dX4_goOn_163 : decode cX4_goOn 163 = .ok (.aload_n 0, 1) := by decide +kernel
theorem dX4_goOn_164 : decode cX4_goOn 164 = .ok (.getfield 11, 3) := by decide +kernel
theorem dX4_goOn_167 : decode cX4_goOn 167 = .ok (.iload_n 1, 1) := by decide +kernel
theorem dX4_goOn_168 : decode cX4_goOn 168 = .ok (.iconst 1, 1) := by decide +kernel
theorem dX4_goOn_169 : decode cX4_goOn 169 = .ok (.iadd, 1) := by decide +kernel
theorem dX4_goOn_170 : decode cX4_goOn 170 = .ok (.aaload, 1) := by decide +kernel
theorem dX4_goOn_171 : decode cX4_goOn 171 = .ok (.invokestatic 50, 3) := by decide +kernel
theorem dX4_goOn_174 : decode cX4_goOn 174 = .ok (.aload_n 0, 1) := by decide +kernel
theorem dX4_goOn_175 : decode cX4_goOn 175 = .ok (.getfield 11, 3) := by decide +kernel
theorem dX4_goOn_178 : decode cX4_goOn 178 = .ok (.iload_n 1, 1) := by decide +kernel
theorem dX4_goOn_179 : decode cX4_goOn 179 = .ok (.iconst 1, 1) := by decide +kernel
theorem dX4_goOn_180 : decode cX4_goOn 180 = .ok (.iadd, 1) := by decide +kernel
theorem dX4_goOn_181 : decode cX4_goOn 181 = .ok (.aaload, 1) := by decide +kernel
theorem dX4_goOn_182 : decode cX4_goOn 182 = .ok (.iload 7, 2) := by decide +kernel
theorem dX4_goOn_184 : decode cX4_goOn 184 = .ok (.dup2, 1) := by decide +kernel
theorem dX4_goOn_185 : decode cX4_goOn 185 = .ok (.iaload, 1) := by decide +kernel
theorem dX4_goOn_186 : decode cX4_goOn 186 = .ok (.aload_n 0, 1) := by decide +kernel
theorem dX4_goOn_187 : decode cX4_goOn 187 = .ok (.getfield 33, 3) := by decide +kernel
theorem dX4_goOn_190 : decode cX4_goOn 190 = .ok (.getfield 76, 3) := by decide +kernel
theorem dX4_goOn_193 : decode cX4_goOn 193 = .ok (.iload_n 1, 1) := by decide +kernel
theorem dX4_goOn_194 : decode cX4_goOn 194 = .ok (.iaload, 1) := by decide +kernel
theorem dX4_goOn_195 : decode cX4_goOn 195 = .ok (.iadd, 1) := by decide +kernel
theorem dX4_goOn_196 : decode cX4_goOn 196 = .ok (.iastore, 1) := by decide +kernel
theorem dX4_goOn_197 : decode cX4_goOn 197 = .ok (.aload_n 0, 1) := by decide +kernel
theorem dX4_goOn_198 : decode cX4_goOn 198 = .ok (.iload_n 1, 1) := by decide +kernel
theorem dX4_goOn_199 : decode cX4_goOn 199 = .ok (.iconst 1, 1) := by decide +kernel
theorem dX4_goOn_200 : decode cX4_goOn 200 = .ok (.iadd, 1) := by decide +kernel
theorem dX4_goOn_201 : decode cX4_goOn 201 = .ok (.iload 5, 2) := by decide +kernel
theorem dX4_goOn_203 : decode cX4_goOn 203 = .ok (.iload 6, 2) := by decide +kernel
theorem dX4_goOn_205 : decode cX4_goOn 205 = .ok (.invokevirtual 54, 3) := by decide +kernel
theorem dX4_goOn_208 : decode cX4_goOn 208 = .ok (.iinc 7 1, 3) := by decide +kernel
theorem dX4_goOn_211 : decode cX4_goOn 211 = .ok (.goto (-99), 3) := by decide +kernel
theorem dX4_goOn_214 : decode cX4_goOn 214 = .ok (.return_, 1) := by decide +kernel
end
section
theorem dX5_init_0 : decode cX5_init 0 = .ok (.aload_n 0, 1) := by decide +kernel
theorem dX5_init_1 : decode cX5_init 1 = .ok (.invokespecial 3, 3) := by decide +kernel
theorem dX5_init_4 : decode cX5_init 4 = .ok (.aload_n 0, 1) := by decide +kernel
theorem dX5_init_5 : decode cX5_init 5 = .ok (.bipush 10, 2) := by decide +kernel
theorem dX5_init_7 : decode cX5_init 7 = .ok (.newarray .boolean, 2) := by decide +kernel
theorem dX5_init_9 : decode cX5_init 9 = .ok (.putfield 9, 3) := by decide +kernel
theorem dX5_init_12 : decode cX5_init 12 = .ok (.aload_n 0, 1) := by decide +kernel
theorem dX5_init_13 : decode cX5_init 13 = .ok (.bipush 8, 2) := by decide +kernel
theorem dX5_init_15 : decode cX5_init 15 = .ok (.newarray .int, 2) := by decide +kernel
theorem dX5_init_17 : decode cX5_init 17 = .ok (.putfield 15, 3) := by decide +kernel
theorem dX5_init_20 : decode cX5_init 20 = .ok (.aload_n 0, 1) := by decide +kernel
theorem dX5_init_21 : decode cX5_init 21 = .ok (.iconst 2, 1) := by decide +kernel
theorem dX5_init_22 : decode cX5_init 22 = .ok (.newarray .int, 2) := by decide +kernel
theorem dX5_init_24 : decode cX5_init 24 = .ok (.putfield 19, 3) := by decide +kernel
theorem dX5_init_27 : decode cX5_init 27 = .ok (.aload_n 0, 1) := by decide +kernel
theorem dX5_init_28 : decode cX5_init 28 = .ok (.aload_n 1, 1) := by decide +kernel
theorem dX5_init_29 : decode cX5_init 29 = .ok (.putfield 22, 3) := by decide +kernel
theorem dX5_init_32 : decode cX5_init 32 = .ok (.return_, 1) := by decide +kernel
theorem dX5_run_0 : decode cX5_run 0 = .ok (.aload_n 0, 1) := by decide +kernel
theorem dX5_run_1 : decode cX5_run 1 = .ok (.getfield 19, 3) := by decide +kernel
theorem dX5_run_4 : decode cX5_run 4 = .ok (.iconst 0, 1) := by decide +kernel
theorem dX5_run_5 : decode cX5_run 5 = .ok (.iconst 0, 1) := by decide +kernel
theorem dX5_run_6 : decode cX5_run 6 = .ok (.iastore, 1) := by decide +kernel
theorem dX5_run_7 : decode cX5_run 7 = .ok (.aload_n 0, 1) := by decide +kernel
theorem dX5_run_8 : decode cX5_run 8 = .ok (.getfield 19, 3) := by decide +kernel
theorem dX5_run_11 : decode cX5_run 11 = .ok (.iconst 1, 1) := by decide +kernel
theorem dX5_run_12 : decode cX5_run 12 = .ok (.iconst 0, 1) := by decide +kernel
theorem dX5_run_13 : decode cX5_run 13 = .ok (.iastore, 1) := by decide +kernel
theorem dX5_run_14 : decode cX5_run 14 = .ok (.iload_n 1, 1) := by decide +kernel
theorem dX5_run_15 : decode cX5_run 15 = .ok (.iconst 2, 1) := by decide +kernel
theorem dX5_run_16 : decode cX5_run 16 = .ok (.if_icmp .ne 13, 3) := by decide +kernel
theorem dX5_run_19 : decode cX5_run 19 = .ok (.aload_n 0, 1) := by decide +kernel
theorem dX5_run_20 : decode cX5_run 20 = .ok (.getfield 22, 3) := by decide +kernel
theorem dX5_run_23 : decode cX5_run 23 = .ok (.getfield 26, 3) := by decide +kernel
theorem dX5_run_26 : decode cX5_run 26 = .ok (.goto 4, 3) := by decide +kernel
theorem dX5_run_29 : decode cX5_run 29 = .ok (.iconst 0, 1) := by decide +kernel
theorem dX5_run_30 : decode cX5_run 30 = .ok (.istore 6, 2) := by decide +kernel
theorem dX5_run_32 : decode cX5_run 32 = .ok (.iconst 0, 1) := by decide +kernel
theorem dX5_run_33 : decode cX5_run 33 = .ok (.istore 7, 2) := by decide +kernel
theorem dX5_run_35 : decode cX5_run 35 = .ok (.iconst 0, 1) := by decide +kernel
theorem dX5_run_36 : decode cX5_run 36 = .ok (.istore 8, 2) := by decide +kernel
theorem dX5_run_38 : decode cX5_run 38 = .ok (.iload 8, 2) := by decide +kernel
theorem dX5_run_40 : decode cX5_run 40 = .ok (.iload 4, 2) := by decide +kernel
theorem dX5_run_42 : decode cX5_run 42 = .ok (.if_icmp .ge 64, 3) := by decide +kernel
theorem dX5_run_45 : decode cX5_run 45 = .ok (.iload 7, 2) := by decide +kernel
theorem dX5_run_47 : decode cX5_run 47 = .ok (.iload 5, 2) := by decide +kernel
theorem dX5_run_49 : decode cX5_run 49 = .ok (.if_icmp .ge 57, 3) := by decide +kernel
theorem dX5_run_52 : decode cX5_run 52 = .ok (.aload_n 0, 1) := by decide +kernel
theorem dX5_run_53 : decode cX5_run 53 = .ok (.iload_n 1, 1) := by decide +kernel
theorem dX5_run_54 : decode cX5_run 54 = .ok (.iload_n 3, 1) := by decide +kernel
theorem dX5_run_55 : decode cX5_run 55 = .ok (.iload 8, 2) := by decide +kernel
theorem dX5_run_57 : decode cX5_run 57 = .ok (.iadd, 1) := by decide +kernel
theorem dX5_run_58 : decode cX5_run 58 = .ok (.invokevirtual 32, 3) := by decide +kernel
theorem dX5_run_61 : decode cX5_run 61 = .ok (.istore 9, 2) := by decide +kernel
theorem dX5_run_63 : decode cX5_run 63 = .ok (.aload_n 0, 1) := by decide +kernel
theorem dX5_run_64 : decode cX5_run 64 = .ok (.aload_n 2, 1) := by decide +kernel
theorem dX5_run_65 : decode cX5_run 65 = .ok (.iload 6, 2) := by decide +kernel
theorem dX5_run_67 : decode cX5_run 67 = .ok (.iload 9, 2) := by decide +kernel
theorem dX5_run_69 : decode cX5_run 69 = .ok (.invokevirtual 36, 3) := by decide +kernel
theorem dX5_run_72 : decode cX5_run 72 = .ok (.istore 10, 2) := by decide +kernel
theorem dX5_run_74 : decode cX5_run 74 = .ok (.iload 7, 2) := by decide +kernel
theorem dX5_run_76 : decode cX5_run 76 = .ok (.iload 10, 2) := by decide +kernel
theorem dX5_run_78 : decode cX5_run 78 = .ok (.iadd, 1) := by decide +kernel
theorem dX5_run_79 : decode cX5_run 79 = .ok (.istore 7, 2) := by decide +kernel
theorem dX5_run_81 : decode cX5_run 81 = .ok (.iload 10, 2) := by decide +kernel
theorem dX5_run_83 : decode cX5_run 83 = .ok (.ifCond .ne 17, 3) := by decide +kernel
theorem dX5_run_86 : decode cX5_run 86 = .ok (.iload_n 1, 1) := by decide +kernel
theorem dX5_run_87 : decode cX5_run 87 = .ok (.iconst 3, 1) := by decide +kernel
theorem dX5_run_88 : decode cX5_run 88 = .ok (.if_icmp .ne 18, 3) := by decide +kernel
theorem dX5_run_91 : decode cX5_run 91 = .ok (.iload 9, 2) := by decide +kernel
theorem dX5_run_93 : decode cX5_run 93 = .ok (.iconst 1, 1) := by decide +kernel
theorem dX5_run_94 : decode cX5_run 94 = .ok (.if_icmp .ne 6, 3) := by decide +kernel
theorem dX5_run_97 : decode cX5_run 97 = .ok (.goto 9, 3) := by decide +kernel
theorem dX5_run_100 : decode cX5_run 100 = .ok (.iinc 8 1, 3) := by decide +kernel
theorem dX5_run_103 : decode cX5_run 103 = .ok (.goto (-65), 3) := by decide +kernel
theorem dX5_run_106 : decode cX5_run 106 = .ok (.iload 7, 2) := by decide +kernel
theorem dX5_run_108 : decode cX5_run 108 = .ok (.ireturn, 1) := by decide +kernel
theorem dX5_goneFrom_0 : decode cX5_goneFrom 0 = .ok (.iload_n 1, 1) := by decide +kernel
theorem dX5_goneFrom_1 : decode cX5_goneFrom 1 = .ok (.iconst 0, 1) := by decide +kernel
theorem dX5_goneFrom_2 : decode cX5_goneFrom 2 = .ok (.iconst 1, 1) := by decide +kernel
theorem dX5_goneFrom_3 : decode cX5_goneFrom 3 = .ok (.invokestatic 40, 3) := by decide +kernel
theorem dX5_goneFrom_6 : decode cX5_goneFrom 6 = .ok (.ifCond .eq 12, 3) := by decide +kernel
theorem dX5_goneFrom_9 : decode cX5_goneFrom 9 = .ok (.aload_n 0, 1) := by decide +kernel
theorem dX5_goneFrom_10 : decode cX5_goneFrom 10 = .ok (.getfield 19, 3) := by decide +kernel
theorem dX5_goneFrom_13 : decode cX5_goneFrom 13 = .ok (.iload_n 1, 1) := by decide +kernel
theorem dX5_goneFrom_14 : decode cX5_goneFrom 14 = .ok (.iaload, 1) := by decide +kernel
theorem dX5_goneFrom_15 : decode cX5_goneFrom 15 = .ok (.goto 16, 3) := by decide +kernel
theorem dX5_goneFrom_18 : decode cX5_goneFrom 18 = .ok (.aload_n 0, 1) := by decide +kernel
theorem dX5_goneFrom_19 : decode cX5_goneFrom 19 = .ok (.getfield 19, 3) := by decide +kernel
theorem dX5_goneFrom_22 : decode cX5_goneFrom 22 = .ok (.iconst 0, 1) := by decide +kernel
theorem dX5_goneFrom_23 : decode cX5_goneFrom 23 = .ok (.iaload, 1) := by decide +kernel
theorem dX5_goneFrom_24 : decode cX5_goneFrom 24 = .ok (.aload_n 0, 1) := by decide +kernel
theorem dX5_goneFrom_25 : decode cX5_goneFrom 25 = .ok (.getfield 19, 3) := by decide +kernel
theorem dX5_goneFrom_28 : decode cX5_goneFrom 28 = .ok (.iconst 1, 1) := by decide +kernel
theorem dX5_goneFrom_29 : decode cX5_goneFrom 29 = .ok (.iaload, 1) := by decide +kernel
theorem dX5_goneFrom_30 : decode cX5_goneFrom 30 = .ok (.iadd, 1) := by decide +kernel
theorem dX5_goneFrom_31 : decode cX5_goneFrom 31 = .ok (.ireturn, 1) := by decide +kernel
theorem dX5_partOf_0 : decode cX5_partOf 0 = .ok (.iload_n 1, 1) := by decide +kernel
theorem dX5_partOf_1 : decode cX5_partOf 1 = .ok (.iconst 3, 1) := by decide +kernel
theorem dX5_partOf_2 : decode cX5_partOf 2 = .ok (.if_icmp .ne 26, 3) := by decide +kernel
theorem dX5_partOf_5 : decode cX5_partOf 5 = .ok (.iload_n 2, 1) := by decide +kernel
theorem dX5_partOf_6 : decode cX5_partOf 6 = .ok (.bipush 7, 2) := by decide +kernel
theorem dX5_partOf_8 : decode cX5_partOf 8 = .ok (.irem, 1) := by decide +kernel
theorem dX5_partOf_9 : decode cX5_partOf 9 = .ok (.aload_n 0, 1) := by decide +kernel
theorem dX5_partOf_10 : decode cX5_partOf 10 = .ok (.getfield 22, 3) := by decide +kernel
theorem dX5_partOf_13 : decode cX5_partOf 13 = .ok (.getfield 26, 3) := by decide +kernel
theorem dX5_partOf_16 : decode cX5_partOf 16 = .ok (.bipush 7, 2) := by decide +kernel
theorem dX5_partOf_18 : decode cX5_partOf 18 = .ok (.irem, 1) := by decide +kernel
theorem dX5_partOf_19 : decode cX5_partOf 19 = .ok (.if_icmp .ne 7, 3) := by decide +kernel
theorem dX5_partOf_22 : decode cX5_partOf 22 = .ok (.iconst 1, 1) := by decide +kernel
theorem dX5_partOf_23 : decode cX5_partOf 23 = .ok (.goto 4, 3) := by decide +kernel
theorem dX5_partOf_26 : decode cX5_partOf 26 = .ok (.iconst 3, 1) := by decide +kernel
theorem dX5_partOf_27 : decode cX5_partOf 27 = .ok (.ireturn, 1) := by decide +kernel
theorem dX5_partOf_28 : decode cX5_partOf 28 = .ok (.iload_n 1, 1) := by decide +kernel
theorem dX5_partOf_29 : decode cX5_partOf 29 = .ok (.iconst 1, 1) := by decide +kernel
theorem dX5_partOf_30 : decode cX5_partOf 30 = .ok (.if_icmp .ne 7, 3) := by decide +kernel
theorem dX5_partOf_33 : decode cX5_partOf 33 = .ok (.iconst 2, 1) := by decide +kernel
theorem dX5_partOf_34 : decode cX5_partOf 34 = .ok (.goto 4, 3) := by decide +kernel
theorem dX5_partOf_37 : decode cX5_partOf 37 = .ok (.iconst 1, 1) := by decide +kernel
theorem dX5_partOf_38 : decode cX5_partOf 38 = .ok (.ireturn, 1) := by decide +kernel
theorem dX5_pass_0 : decode cX5_pass 0 = .ok (.aload_n 0, 1) := by decide +kernel
theorem dX5_pass_1 : decode cX5_pass 1 = .ok (.aload_n 1, 1) := by decide +kernel
theorem dX5_pass_2 : decode cX5_pass 2 = .ok (.iload_n 2, 1) := by decide +kernel
theorem dX5_pass_3 : decode cX5_pass 3 = .ok (.iload_n 3, 1) := by decide +kernel
theorem dX5_pass_4 : decode cX5_pass 4 = .ok (.invokevirtual 44, 3) := by decide +kernel
theorem dX5_pass_7 : decode cX5_pass 7 = .ok (.iconst 0, 1) := by decide +kernel
theorem dX5_pass_8 : decode cX5_pass 8 = .ok (.istore 4, 2) := by decide +kernel
theorem dX5_pass_10 : decode cX5_pass 10 = .ok (.iconst 0, 1) := by decide +kernel
theorem dX5_pass_11 : decode cX5_pass 11 = .ok (.istore 5, 2) := by decide +kernel
theorem dX5_pass_13 : decode cX5_pass 13 = .ok (.iload 5, 2) := by decide +kernel
theorem dX5_pass_15 : decode cX5_pass 15 = .ok (.aload_n 0, 1) := by decide +kernel
theorem dX5_pass_16 : decode cX5_pass 16 = .ok (.getfield 22, 3) := by decide +kernel
theorem dX5_pass_19 : decode cX5_pass 19 = .ok (.getfield 48, 3) := by decide +kernel
theorem dX5_pass_22 : decode cX5_pass 22 = .ok (.if_icmp .ge 75, 3) := by decide +kernel
theorem dX5_pass_25 : decode cX5_pass 25 = .ok (.aload_n 0, 1) := by decide +kernel
theorem dX5_pass_26 : decode cX5_pass 26 = .ok (.getfield 15, 3) := by decide +kernel
theorem dX5_pass_29 : decode cX5_pass 29 = .ok (.iload 5, 2) := by decide +kernel
theorem dX5_pass_31 : decode cX5_pass 31 = .ok (.iaload, 1) := by decide +kernel
theorem dX5_pass_32 : decode cX5_pass 32 = .ok (.aload_n 1, 1) := by decide +kernel
theorem dX5_pass_33 : decode cX5_pass 33 = .ok (.iload 5, 2) := by decide +kernel
theorem dX5_pass_35 : decode cX5_pass 35 = .ok (.iaload, 1) := by decide +kernel
theorem dX5_pass_36 : decode cX5_pass 36 = .ok (.if_icmp .ge 13, 3) := by decide +kernel
theorem dX5_pass_39 : decode cX5_pass 39 = .ok (.aload_n 0, 1) := by decide +kernel
theorem dX5_pass_40 : decode cX5_pass 40 = .ok (.getfield 15, 3) := by decide +kernel
theorem dX5_pass_43 : decode cX5_pass 43 = .ok (.iload 5, 2) := by decide +kernel
theorem dX5_pass_45 : decode cX5_pass 45 = .ok (.iaload, 1) := by decide +kernel
theorem dX5_pass_46 : decode cX5_pass 46 = .ok (.goto 7, 3) := by decide +kernel
theorem dX5_pass_49 : decode cX5_pass 49 = .ok (.aload_n 1, 1) := by decide +kernel
theorem dX5_pass_50 : decode cX5_pass 50 = .ok (.iload 5, 2) := by decide +kernel
theorem dX5_pass_52 : decode cX5_pass 52 = .ok (.iaload, 1) := by decide +kernel
theorem dX5_pass_53 : decode cX5_pass 53 = .ok (.istore 6, 2) := by decide +kernel
theorem dX5_pass_55 : decode cX5_pass 55 = .ok (.aload_n 1, 1) := by decide +kernel
theorem dX5_pass_56 : decode cX5_pass 56 = .ok (.iload 5, 2) := by decide +kernel
theorem dX5_pass_58 : decode cX5_pass 58 = .ok (.dup2, 1) := by decide +kernel
theorem dX5_pass_59 : decode cX5_pass 59 = .ok (.iaload, 1) := by decide +kernel
theorem dX5_pass_60 : decode cX5_pass 60 = .ok (.iload 6, 2) := by decide +kernel
theorem dX5_pass_62 : decode cX5_pass 62 = .ok (.isub, 1) := by decide +kernel
theorem dX5_pass_63 : decode cX5_pass 63 = .ok (.iastore, 1) := by decide +kernel
theorem dX5_pass_64 : decode cX5_pass 64 = .ok (.aload_n 0, 1) := by decide +kernel
theorem dX5_pass_65 : decode cX5_pass 65 = .ok (.getfield 19, 3) := by decide +kernel
theorem dX5_pass_68 : decode cX5_pass 68 = .ok (.aload_n 0, 1) := by decide +kernel
theorem dX5_pass_69 : decode cX5_pass 69 = .ok (.getfield 22, 3) := by decide +kernel
theorem dX5_pass_72 : decode cX5_pass 72 = .ok (.getfield 51, 3) := by decide +kernel
theorem dX5_pass_75 : decode cX5_pass 75 = .ok (.iload 5, 2) := by decide +kernel
theorem dX5_pass_77 : decode cX5_pass 77 = .ok (.iaload, 1) := by decide +kernel
theorem dX5_pass_78 : decode cX5_pass 78 = .ok (.dup2, 1) := by decide +kernel
theorem dX5_pass_79 : decode cX5_pass 79 = .ok (.iaload, 1) := by decide +kernel
theorem dX5_pass_80 : decode cX5_pass 80 = .ok (.iload 6, 2) := by decide +kernel
theorem dX5_pass_82 : decode cX5_pass 82 = .ok (.iadd, 1) := by decide +kernel
theorem dX5_pass_83 : decode cX5_pass 83 = .ok (.iastore, 1) := by decide +kernel
theorem dX5_pass_84 : decode cX5_pass 84 = .ok (.iload 4, 2) := by decide +kernel
theorem dX5_pass_86 : decode cX5_pass 86 = .ok (.iload 6, 2) := by decide +kernel
theorem dX5_pass_88 : decode cX5_pass 88 = .ok (.iadd, 1) := by decide +kernel
theorem dX5_pass_89 : decode cX5_pass 89 = .ok (.istore 4, 2) := by decide +kernel
theorem dX5_pass_91 : decode cX5_pass 91 = .ok (.iinc 5 1, 3) := by decide +kernel
theorem dX5_pass_94 : decode cX5_pass 94 = .ok (.goto (-81), 3) := by decide +kernel
theorem dX5_pass_97 : decode cX5_pass 97 = .ok (.iload 4, 2) := by decide +kernel
theorem dX5_pass_99 : decode cX5_pass 99 = .ok (.ireturn, 1) := by decide +kernel
theorem dX5_wantByGaps_0 : decode cX5_wantByGaps 0 = .ok (.iconst 0, 1) := by decide +kernel
theorem dX5_wantByGaps_1 : decode cX5_wantByGaps 1 = .ok (.istore 4, 2) := by decide +kernel
theorem dX5_wantByGaps_3 : decode cX5_wantByGaps 3 = .ok (.iload 4, 2) := by decide +kernel
theorem dX5_wantByGaps_5 : decode cX5_wantByGaps 5 = .ok (.aload_n 0, 1) := by decide +kernel
theorem dX5_wantByGaps_6 : decode cX5_wantByGaps 6 = .ok (.getfield 22, 3) := by decide +kernel
theorem dX5_wantByGaps_9 : decode cX5_wantByGaps 9 = .ok (.getfield 48, 3) := by decide +kernel
theorem dX5_wantByGaps_12 : decode cX5_wantByGaps 12 = .ok (.if_icmp .ge 17, 3) := by decide +kernel
theorem dX5_wantByGaps_15 : decode cX5_wantByGaps 15 = .ok (.aload_n 0, 1) := by decide +kernel
theorem dX5_wantByGaps_16 : decode cX5_wantByGaps 16 = .ok (.getfield 15, 3) := by decide +kernel
theorem dX5_wantByGaps_19 : decode cX5_wantByGaps 19 = .ok (.iload 4, 2) := by decide +kernel
theorem dX5_wantByGaps_21 : decode cX5_wantByGaps 21 = .ok (.iconst 0, 1) := by decide +kernel
theorem dX5_wantByGaps_22 : decode cX5_wantByGaps 22 = .ok (.iastore, 1) := by decide +kernel
theorem dX5_wantByGaps_23 : decode cX5_wantByGaps 23 = .ok (.iinc 4 1, 3) := by decide +kernel
theorem dX5_wantByGaps_26 : decode cX5_wantByGaps 26 = .ok (.goto (-23), 3) := by decide +kernel
theorem dX5_wantByGaps_29 : decode cX5_wantByGaps 29 = .ok (.iconst 0, 1) := by decide +kernel
theorem dX5_wantByGaps_30 : decode cX5_wantByGaps 30 = .ok (.istore 4, 2) := by decide +kernel
theorem dX5_wantByGaps_32 : decode cX5_wantByGaps 32 = .ok (.iload 4, 2) := by decide +kernel
theorem dX5_wantByGaps_34 : decode cX5_wantByGaps 34 = .ok (.aload_n 0, 1) := by decide +kernel
theorem dX5_wantByGaps_35 : decode cX5_wantByGaps 35 = .ok (.getfield 22, 3) := by decide +kernel
theorem dX5_wantByGaps_38 : decode cX5_wantByGaps 38 = .ok (.getfield 54, 3) := by decide +kernel
theorem dX5_wantByGaps_41 : decode cX5_wantByGaps 41 = .ok (.if_icmp .ge 117, 3) := by decide +kernel
theorem dX5_wantByGaps_44 : decode cX5_wantByGaps 44 = .ok (.aload_n 0, 1) := by decide +kernel
theorem dX5_wantByGaps_45 : decode cX5_wantByGaps 45 = .ok (.getfield 22, 3) := by decide +kernel
theorem dX5_wantByGaps_48 : decode cX5_wantByGaps 48 = .ok (.getfield 57, 3) := by decide +kernel
theorem dX5_wantByGaps_51 : decode cX5_wantByGaps 51 = .ok (.iload 4, 2) := by decide +kernel
theorem dX5_wantByGaps_53 : decode cX5_wantByGaps 53 = .ok (.iaload, 1) := by decide +kernel
theorem dX5_wantByGaps_54 : decode cX5_wantByGaps 54 = .ok (.istore 5, 2) := by decide +kernel
theorem dX5_wantByGaps_56 : decode cX5_wantByGaps 56 = .ok (.aload_n 0, 1) := by decide +kernel
theorem dX5_wantByGaps_57 : decode cX5_wantByGaps 57 = .ok (.getfield 22, 3) := by decide +kernel
theorem dX5_wantByGaps_60 : decode cX5_wantByGaps 60 = .ok (.getfield 60, 3) := by decide +kernel
theorem dX5_wantByGaps_63 : decode cX5_wantByGaps 63 = .ok (.iload 4, 2) := by decide +kernel
theorem dX5_wantByGaps_65 : decode cX5_wantByGaps 65 = .ok (.iaload, 1) := by decide +kernel
theorem dX5_wantByGaps_66 : decode cX5_wantByGaps 66 = .ok (.istore 6, 2) := by decide +kernel
theorem dX5_wantByGaps_68 : decode cX5_wantByGaps 68 = .ok (.aload_n 1, 1) := by decide +kernel
theorem dX5_wantByGaps_69 : decode cX5_wantByGaps 69 = .ok (.iload 5, 2) := by decide +kernel
theorem dX5_wantByGaps_71 : decode cX5_wantByGaps 71 = .ok (.iaload, 1) := by decide +kernel
theorem dX5_wantByGaps_72 : decode cX5_wantByGaps 72 = .ok (.aload_n 1, 1) := by decide +kernel
theorem dX5_wantByGaps_73 : decode cX5_wantByGaps 73 = .ok (.iload 6, 2) := by decide +kernel
theorem dX5_wantByGaps_75 : decode cX5_wantByGaps 75 = .ok (.iaload, 1) := by decide +kernel
theorem dX5_wantByGaps_76 : decode cX5_wantByGaps 76 = .ok (.isub, 1) := by decide +kernel
theorem dX5_wantByGaps_77 : decode cX5_wantByGaps 77 = .ok (.istore 7, 2) := by decide +kernel
theorem dX5_wantByGaps_79 : decode cX5_wantByGaps 79 = .ok (.iload 7, 2) := by decide +kernel
theorem dX5_wantByGaps_81 : decode cX5_wantByGaps 81 = .ok (.ifCond .ge 9, 3) := by decide +kernel
theorem dX5_wantByGaps_84 : decode cX5_wantByGaps 84 = .ok (.iload 7, 2) := by decide +kernel
theorem dX5_wantByGaps_86 : decode cX5_wantByGaps 86 = .ok (.ineg, 1) := by decide +kernel
theorem dX5_wantByGaps_87 : decode cX5_wantByGaps 87 = .ok (.goto 5, 3) := by decide +kernel
theorem dX5_wantByGaps_90 : decode cX5_wantByGaps 90 = .ok (.iload 7, 2) := by decide +kernel
theorem dX5_wantByGaps_92 : decode cX5_wantByGaps 92 = .ok (.iload_n 2, 1) := by decide +kernel
theorem dX5_wantByGaps_93 : decode cX5_wantByGaps 93 = .ok (.isub, 1) := by decide +kernel
theorem dX5_wantByGaps_94 : decode cX5_wantByGaps 94 = .ok (.istore 8, 2) := by decide +kernel
theorem dX5_wantByGaps_96 : decode cX5_wantByGaps 96 = .ok (.iload 8, 2) := by decide +kernel
theorem dX5_wantByGaps_98 : decode cX5_wantByGaps 98 = .ok (.ifCond .le 54, 3) := by decide +kernel
theorem dX5_wantByGaps_101 : decode cX5_wantByGaps 101 = .ok (.iload_n 3, 1) := by decide +kernel
theorem dX5_wantByGaps_102 : decode cX5_wantByGaps 102 = .ok (.ifCond .le 50, 3) := by decide +kernel
theorem dX5_wantByGaps_105 : decode cX5_wantByGaps 105 = .ok (.aload_n 0, 1) := by decide +kernel
theorem dX5_wantByGaps_106 : decode cX5_wantByGaps 106 = .ok (.getfield 22, 3) := by decide +kernel
theorem dX5_wantByGaps_109 : decode cX5_wantByGaps 109 = .ok (.getfield 63, 3) := by decide +kernel
theorem dX5_wantByGaps_112 : decode cX5_wantByGaps 112 = .ok (.iload 4, 2) := by decide +kernel
theorem dX5_wantByGaps_114 : decode cX5_wantByGaps 114 = .ok (.baload, 1) := by decide +kernel
theorem dX5_wantByGaps_115 : decode cX5_wantByGaps 115 = .ok (.ifCond .ne 37, 3) := by decide +kernel
theorem dX5_wantByGaps_118 : decode cX5_wantByGaps 118 = .ok (.aload_n 0, 1) := by decide +kernel
theorem dX5_wantByGaps_119 : decode cX5_wantByGaps 119 = .ok (.getfield 9, 3) := by decide +kernel
theorem dX5_wantByGaps_122 : decode cX5_wantByGaps 122 = .ok (.iload 4, 2) := by decide +kernel
theorem dX5_wantByGaps_124 : decode cX5_wantByGaps 124 = .ok (.baload, 1) := by decide +kernel
theorem dX5_wantByGaps_125 : decode cX5_wantByGaps 125 = .ok (.ifCond .ne 27, 3) := by decide +kernel
theorem dX5_wantByGaps_128 : decode cX5_wantByGaps 128 = .ok (.aload_n 0, 1) := by decide +kernel
theorem dX5_wantByGaps_129 : decode cX5_wantByGaps 129 = .ok (.getfield 15, 3) := by decide +kernel
theorem dX5_wantByGaps_132 : decode cX5_wantByGaps 132 = .ok (.iload 7, 2) := by decide +kernel
theorem dX5_wantByGaps_134 : decode cX5_wantByGaps 134 = .ok (.ifCond .le 8, 3) := by decide +kernel
theorem dX5_wantByGaps_137 : decode cX5_wantByGaps 137 = .ok (.iload 5, 2) := by decide +kernel
theorem dX5_wantByGaps_139 : decode cX5_wantByGaps 139 = .ok (.goto 5, 3) := by decide +kernel
theorem dX5_wantByGaps_142 : decode cX5_wantByGaps 142 = .ok (.iload 6, 2) := by decide +kernel
theorem dX5_wantByGaps_144 : decode cX5_wantByGaps 144 = .ok (.dup2, 1) := by decide +kernel
theorem dX5_wantByGaps_145 : decode cX5_wantByGaps 145 = .ok (.iaload, 1) := by decide +kernel
theorem dX5_wantByGaps_146 : decode cX5_wantByGaps 146 = .ok (.iload 8, 2) := by decide +kernel
theorem dX5_wantByGaps_148 : decode cX5_wantByGaps 148 = .ok (.iload_n 3, 1) := by decide +kernel
theorem dX5_wantByGaps_149 : decode cX5_wantByGaps 149 = .ok (.idiv, 1) := by decide +kernel
theorem dX5_wantByGaps_150 : decode cX5_wantByGaps 150 = .ok (.iadd, 1) := by decide +kernel
theorem dX5_wantByGaps_151 : decode cX5_wantByGaps 151 = .ok (.iastore, 1) := by decide +kernel
theorem dX5_wantByGaps_152 : decode cX5_wantByGaps 152 = .ok (.iinc 4 1, 3) := by decide +kernel
theorem dX5_wantByGaps_155 : decode cX5_wantByGaps 155 = .ok (.goto (-123), 3) := by decide +kernel
theorem dX5_wantByGaps_158 : decode cX5_wantByGaps 158 = .ok (.return_, 1) := by decide +kernel
theorem dX6_init_0 : decode cX6_init 0 = .ok (.aload_n 0, 1) := by decide +kernel
theorem dX6_init_1 : decode cX6_init 1 = .ok (.invokespecial 3, 3) := by decide +kernel
theorem dX6_init_4 : decode cX6_init 4 = .ok (.aload_n 0, 1) := by decide +kernel
theorem dX6_init_5 : decode cX6_init 5 = .ok (.bipush 8, 2) := by decide +kernel
theorem dX6_init_7 : decode cX6_init 7 = .ok (.newarray .int, 2) := by decide +kernel
theorem dX6_init_9 : decode cX6_init 9 = .ok (.putfield 9, 3) := by decide +kernel
theorem dX6_init_12 : decode cX6_init 12 = .ok (.aload_n 0, 1) := by decide +kernel
theorem dX6_init_13 : decode cX6_init 13 = .ok (.bipush 8, 2) := by decide +kernel
theorem dX6_init_15 : decode cX6_init 15 = .ok (.newarray .int, 2) := by decide +kernel
theorem dX6_init_17 : decode cX6_init 17 = .ok (.putfield 15, 3) := by decide +kernel
theorem dX6_init_20 : decode cX6_init 20 = .ok (.aload_n 0, 1) := by decide +kernel
theorem dX6_init_21 : decode cX6_init 21 = .ok (.bipush 8, 2) := by decide +kernel
theorem dX6_init_23 : decode cX6_init 23 = .ok (.newarray .int, 2) := by decide +kernel
theorem dX6_init_25 : decode cX6_init 25 = .ok (.putfield 18, 3) := by decide +kernel
theorem dX6_init_28 : decode cX6_init 28 = .ok (.aload_n 0, 1) := by decide +kernel
theorem dX6_init_29 : decode cX6_init 29 = .ok (.iconst 0, 1) := by decide +kernel
theorem dX6_init_30 : decode cX6_init 30 = .ok (.putfield 21, 3) := by decide +kernel
theorem dX6_init_33 : decode cX6_init 33 = .ok (.aload_n 0, 1) := by decide +kernel
theorem dX6_init_34 : decode cX6_init 34 = .ok (.aload_n 1, 1) := by decide +kernel
theorem dX6_init_35 : decode cX6_init 35 = .ok (.putfield 25, 3) := by decide +kernel
theorem dX6_init_38 : decode cX6_init 38 = .ok (.aload_n 0, 1) := by decide +kernel
theorem dX6_init_39 : decode cX6_init 39 = .ok (.aload_n 2, 1) := by decide +kernel
theorem dX6_init_40 : decode cX6_init 40 = .ok (.putfield 29, 3) := by decide +kernel
theorem dX6_init_43 : decode cX6_init 43 = .ok (.return_, 1) := by decide +kernel
theorem dX6_search_0 : decode cX6_search 0 = .ok (.aload_n 1, 1) := by decide +kernel
theorem dX6_search_1 : decode cX6_search 1 = .ok (.aload_n 0, 1) := by decide +kernel
theorem dX6_search_2 : decode cX6_search 2 = .ok (.getfield 9, 3) := by decide +kernel
theorem dX6_search_5 : decode cX6_search 5 = .ok (.invokestatic 33, 3) := by decide +kernel
theorem dX6_search_8 : decode cX6_search 8 = .ok (.aload_n 0, 1) := by decide +kernel
theorem dX6_search_9 : decode cX6_search 9 = .ok (.invokevirtual 37, 3) := by decide +kernel
theorem dX6_search_12 : decode cX6_search 12 = .ok (.aload_n 0, 1) := by decide +kernel
theorem dX6_search_13 : decode cX6_search 13 = .ok (.ldc 40, 2) := by decide +kernel
theorem dX6_search_15 : decode cX6_search 15 = .ok (.putfield 21, 3) := by decide +kernel
theorem dX6_search_18 : decode cX6_search 18 = .ok (.iconst 1, 1) := by decide +kernel
theorem dX6_search_19 : decode cX6_search 19 = .ok (.istore 4, 2) := by decide +kernel
theorem dX6_search_21 : decode cX6_search 21 = .ok (.iconst 0, 1) := by decide +kernel
theorem dX6_search_22 : decode cX6_search 22 = .ok (.istore 5, 2) := by decide +kernel
theorem dX6_search_24 : decode cX6_search 24 = .ok (.iload 5, 2) := by decide +kernel
theorem dX6_search_26 : decode cX6_search 26 = .ok (.ldc 41, 2) := by decide +kernel
theorem dX6_search_28 : decode cX6_search 28 = .ok (.if_icmp .ge 83, 3) := by decide +kernel
theorem dX6_search_31 : decode cX6_search 31 = .ok (.iload 4, 2) := by decide +kernel
theorem dX6_search_33 : decode cX6_search 33 = .ok (.ifCond .eq 78, 3) := by decide +kernel
theorem dX6_search_36 : decode cX6_search 36 = .ok (.aload_n 0, 1) := by decide +kernel
theorem dX6_search_37 : decode cX6_search 37 = .ok (.getfield 9, 3) := by decide +kernel
theorem dX6_search_40 : decode cX6_search 40 = .ok (.aload_n 0, 1) := by decide +kernel
theorem dX6_search_41 : decode cX6_search 41 = .ok (.getfield 15, 3) := by decide +kernel
theorem dX6_search_44 : decode cX6_search 44 = .ok (.invokestatic 33, 3) := by decide +kernel
theorem dX6_search_47 : decode cX6_search 47 = .ok (.aload_n 0, 1) := by decide +kernel
theorem dX6_search_48 : decode cX6_search 48 = .ok (.getfield 29, 3) := by decide +kernel
theorem dX6_search_51 : decode cX6_search 51 = .ok (.aload_n 0, 1) := by decide +kernel
theorem dX6_search_52 : decode cX6_search 52 = .ok (.getfield 25, 3) := by decide +kernel
theorem dX6_search_55 : decode cX6_search 55 = .ok (.getfield 42, 3) := by decide +kernel
theorem dX6_search_58 : decode cX6_search 58 = .ok (.aload_n 0, 1) := by decide +kernel
theorem dX6_search_59 : decode cX6_search 59 = .ok (.getfield 15, 3) := by decide +kernel
theorem dX6_search_62 : decode cX6_search 62 = .ok (.iload_n 2, 1) := by decide +kernel
theorem dX6_search_63 : decode cX6_search 63 = .ok (.iload_n 3, 1) := by decide +kernel
theorem dX6_search_64 : decode cX6_search 64 = .ok (.aload_n 0, 1) := by decide +kernel
theorem dX6_search_65 : decode cX6_search 65 = .ok (.getfield 21, 3) := by decide +kernel
theorem dX6_search_68 : decode cX6_search 68 = .ok (.invokevirtual 47, 3) := by decide +kernel
theorem dX6_search_71 : decode cX6_search 71 = .ok (.istore 6, 2) := by decide +kernel
theorem dX6_search_73 : decode cX6_search 73 = .ok (.iload 6, 2) := by decide +kernel
theorem dX6_search_75 : decode cX6_search 75 = .ok (.aload_n 0, 1) := by decide +kernel
theorem dX6_search_76 : decode cX6_search 76 = .ok (.getfield 21, 3) := by decide +kernel
theorem dX6_search_79 : decode cX6_search 79 = .ok (.if_icmp .ge 20, 3) := by decide +kernel
theorem dX6_search_82 : decode cX6_search 82 = .ok (.aload_n 0, 1) := by decide +kernel
theorem dX6_search_83 : decode cX6_search 83 = .ok (.iload 6, 2) := by decide +kernel
theorem dX6_search_85 : decode cX6_search 85 = .ok (.putfield 21, 3) := by decide +kernel
theorem dX6_search_88 : decode cX6_search 88 = .ok (.aload_n 0, 1) := by decide +kernel
theorem dX6_search_89 : decode cX6_search 89 = .ok (.getfield 9, 3) := by decide +kernel
theorem dX6_search_92 : decode cX6_search 92 = .ok (.aload_n 0, 1) := by decide +kernel
theorem dX6_search_93 : decode cX6_search 93 = .ok (.getfield 18, 3) := by decide +kernel
theorem dX6_search_96 : decode cX6_search 96 = .ok (.invokestatic 33, 3) := by decide +kernel
theorem dX6_search_99 : decode cX6_search 99 = .ok (.aload_n 0, 1) := by decide +kernel
theorem dX6_search_100 : decode cX6_search 100 = .ok (.invokevirtual 53, 3) := by decide +kernel
theorem dX6_search_103 : decode cX6_search 103 = .ok (.istore 4, 2) := by decide +kernel
theorem dX6_search_105 : decode cX6_search 105 = .ok (.iinc 5 1, 3) := by decide +kernel
theorem dX6_search_108 : decode cX6_search 108 = .ok (.goto (-84), 3) := by decide +kernel
theorem dX6_search_111 : decode cX6_search 111 = .ok (.return_, 1) := by decide +kernel
theorem dX6_sortRow_0 : decode cX6_sortRow 0 = .ok (.iconst 1, 1) := by decide +kernel
theorem dX6_sortRow_1 : decode cX6_sortRow 1 = .ok (.istore_n 1, 1) := by decide +kernel
theorem dX6_sortRow_2 : decode cX6_sortRow 2 = .ok (.iload_n 1, 1) := by decide +kernel
theorem dX6_sortRow_3 : decode cX6_sortRow 3 = .ok (.aload_n 0, 1) := by decide +kernel
theorem dX6_sortRow_4 : decode cX6_sortRow 4 = .ok (.getfield 25, 3) := by decide +kernel
theorem dX6_sortRow_7 : decode cX6_sortRow 7 = .ok (.getfield 57, 3) := by decide +kernel
theorem dX6_sortRow_10 : decode cX6_sortRow 10 = .ok (.if_icmp .ge 49, 3) := by decide +kernel
theorem dX6_sortRow_13 : decode cX6_sortRow 13 = .ok (.iload_n 1, 1) := by decide +kernel
theorem dX6_sortRow_14 : decode cX6_sortRow 14 = .ok (.istore_n 2, 1) := by decide +kernel
theorem dX6_sortRow_15 : decode cX6_sortRow 15 = .ok (.iload_n 2, 1) := by decide +kernel
theorem dX6_sortRow_16 : decode cX6_sortRow 16 = .ok (.ifCond .le 37, 3) := by decide +kernel
theorem dX6_sortRow_19 : decode cX6_sortRow 19 = .ok (.aload_n 0, 1) := by decide +kernel
theorem dX6_sortRow_20 : decode cX6_sortRow 20 = .ok (.getfield 9, 3) := by decide +kernel
theorem dX6_sortRow_23 : decode cX6_sortRow 23 = .ok (.iload_n 2, 1) := by decide +kernel
theorem dX6_sortRow_24 : decode cX6_sortRow 24 = .ok (.iaload, 1) := by decide +kernel
theorem dX6_sortRow_25 : decode cX6_sortRow 25 = .ok (.aload_n 0, 1) := by decide +kernel
theorem dX6_sortRow_26 : decode cX6_sortRow 26 = .ok (.getfield 9, 3) := by decide +kernel
theorem dX6_sortRow_29 : decode cX6_sortRow 29 = .ok (.iload_n 2, 1) := by decide +kernel
theorem dX6_sortRow_30 : decode cX6_sortRow 30 = .ok (.iconst 1, 1) := by decide +kernel
theorem dX6_sortRow_31 : decode cX6_sortRow 31 = .ok (.isub, 1) := by decide +kernel
theorem dX6_sortRow_32 : decode cX6_sortRow 32 = .ok (.iaload, 1) := by decide +kernel
theorem dX6_sortRow_33 : decode cX6_sortRow 33 = .ok (.if_icmp .ge 20, 3) := by decide +kernel
theorem dX6_sortRow_36 : decode cX6_sortRow 36 = .ok (.aload_n 0, 1) := by decide +kernel
theorem dX6_sortRow_37 : decode cX6_sortRow 37 = .ok (.getfield 9, 3) := by decide +kernel
theorem dX6_sortRow_40 : decode cX6_sortRow 40 = .ok (.iload_n 2, 1) := by decide +kernel
theorem dX6_sortRow_41 : decode cX6_sortRow 41 = .ok (.iload_n 2, 1) := by decide +kernel
theorem dX6_sortRow_42 : decode cX6_sortRow 42 = .ok (.iconst 1, 1) := by decide +kernel
theorem dX6_sortRow_43 : decode cX6_sortRow 43 = .ok (.isub, 1) := by decide +kernel
theorem dX6_sortRow_44 : decode cX6_sortRow 44 = .ok (.invokestatic 60, 3) := by decide +kernel
theorem dX6_sortRow_47 : decode cX6_sortRow 47 = .ok (.iinc 2 (-1), 3) := by decide +kernel
theorem dX6_sortRow_50 : decode cX6_sortRow 50 = .ok (.goto (-35), 3) := by decide +kernel
theorem dX6_sortRow_53 : decode cX6_sortRow 53 = .ok (.iinc 1 1, 3) := by decide +kernel
theorem dX6_sortRow_56 : decode cX6_sortRow 56 = .ok (.goto (-54), 3) := by decide +kernel
theorem dX6_sortRow_59 : decode cX6_sortRow 59 = .ok (.return_, 1) := by decide +kernel
theorem dX6_nextOrder_0 : decode cX6_nextOrder 0 = .ok (.aload_n 0, 1) := by decide +kernel
theorem dX6_nextOrder_1 : decode cX6_nextOrder 1 = .ok (.getfield 25, 3) := by decide +kernel
theorem dX6_nextOrder_4 : decode cX6_nextOrder 4 = .ok (.getfield 57, 3) := by decide +kernel
theorem dX6_nextOrder_7 : decode cX6_nextOrder 7 = .ok (.iconst 2, 1) := by decide +kernel
theorem dX6_nextOrder_8 : decode cX6_nextOrder 8 = .ok (.isub, 1) := by decide +kernel
theorem dX6_nextOrder_9 : decode cX6_nextOrder 9 = .ok (.istore_n 1, 1) := by decide +kernel
theorem dX6_nextOrder_10 : decode cX6_nextOrder 10 = .ok (.iload_n 1, 1) := by decide +kernel
theorem dX6_nextOrder_11 : decode cX6_nextOrder 11 = .ok (.ifCond .lt 26, 3) := by decide +kernel
theorem dX6_nextOrder_14 : decode cX6_nextOrder 14 = .ok (.aload_n 0, 1) := by decide +kernel
theorem dX6_nextOrder_15 : decode cX6_nextOrder 15 = .ok (.getfield 9, 3) := by decide +kernel
theorem dX6_nextOrder_18 : decode cX6_nextOrder 18 = .ok (.iload_n 1, 1) := by decide +kernel
theorem dX6_nextOrder_19 : decode cX6_nextOrder 19 = .ok (.iaload, 1) := by decide +kernel
theorem dX6_nextOrder_20 : decode cX6_nextOrder 20 = .ok (.aload_n 0, 1) := by decide +kernel
theorem dX6_nextOrder_21 : decode cX6_nextOrder 21 = .ok (.getfield 9, 3) := by decide +kernel
theorem dX6_nextOrder_24 : decode cX6_nextOrder 24 = .ok (.iload_n 1, 1) := by decide +kernel
theorem dX6_nextOrder_25 : decode cX6_nextOrder 25 = .ok (.iconst 1, 1) := by decide +kernel
theorem dX6_nextOrder_26 : decode cX6_nextOrder 26 = .ok (.iadd, 1) := by decide +kernel
theorem dX6_nextOrder_27 : decode cX6_nextOrder 27 = .ok (.iaload, 1) := by decide +kernel
theorem dX6_nextOrder_28 : decode cX6_nextOrder 28 = .ok (.if_icmp .lt 9, 3) := by decide +kernel
theorem dX6_nextOrder_31 : decode cX6_nextOrder 31 = .ok (.iinc 1 (-1), 3) := by decide +kernel
theorem dX6_nextOrder_34 : decode cX6_nextOrder 34 = .ok (.goto (-24), 3) := by decide +kernel
theorem dX6_nextOrder_37 : decode cX6_nextOrder 37 = .ok (.iload_n 1, 1) := by decide +kernel
theorem dX6_nextOrder_38 : decode cX6_nextOrder 38 = .ok (.ifCond .ge 5, 3) := by decide +kernel
theorem dX6_nextOrder_41 : decode cX6_nextOrder 41 = .ok (.iconst 0, 1) := by decide +kernel
theorem dX6_nextOrder_42 : decode cX6_nextOrder 42 = .ok (.ireturn, 1) := by decide +kernel
theorem dX6_nextOrder_43 : decode cX6_nextOrder 43 = .ok (.aload_n 0, 1) := by decide +kernel
theorem dX6_nextOrder_44 : decode cX6_nextOrder 44 = .ok (.getfield 25, 3) := by decide +kernel
theorem dX6_nextOrder_47 : decode cX6_nextOrder 47 = .ok (.getfield 57, 3) := by decide +kernel
theorem dX6_nextOrder_50 : decode cX6_nextOrder 50 = .ok (.iconst 1, 1) := by decide +kernel
theorem dX6_nextOrder_51 : decode cX6_nextOrder 51 = .ok (.isub, 1) := by decide +kernel
theorem dX6_nextOrder_52 : decode cX6_nextOrder 52 = .ok (.istore_n 2, 1) := by decide +kernel
theorem dX6_nextOrder_53 : decode cX6_nextOrder 53 = .ok (.iload_n 2, 1) := by decide +kernel
theorem dX6_nextOrder_54 : decode cX6_nextOrder 54 = .ok (.iload_n 1, 1) := by decide +kernel
theorem dX6_nextOrder_55 : decode cX6_nextOrder 55 = .ok (.iconst 1, 1) := by decide +kernel
theorem dX6_nextOrder_56 : decode cX6_nextOrder 56 = .ok (.iadd, 1) := by decide +kernel
theorem dX6_nextOrder_57 : decode cX6_nextOrder 57 = .ok (.if_icmp .le 24, 3) := by decide +kernel
theorem dX6_nextOrder_60 : decode cX6_nextOrder 60 = .ok (.aload_n 0, 1) := by decide +kernel
theorem dX6_nextOrder_61 : decode cX6_nextOrder 61 = .ok (.getfield 9, 3) := by decide +kernel
theorem dX6_nextOrder_64 : decode cX6_nextOrder 64 = .ok (.iload_n 2, 1) := by decide +kernel
theorem dX6_nextOrder_65 : decode cX6_nextOrder 65 = .ok (.iaload, 1) := by decide +kernel
theorem dX6_nextOrder_66 : decode cX6_nextOrder 66 = .ok (.aload_n 0, 1) := by decide +kernel
theorem dX6_nextOrder_67 : decode cX6_nextOrder 67 = .ok (.getfield 9, 3) := by decide +kernel
theorem dX6_nextOrder_70 : decode cX6_nextOrder 70 = .ok (.iload_n 1, 1) := by decide +kernel
theorem dX6_nextOrder_71 : decode cX6_nextOrder 71 = .ok (.iaload, 1) := by decide +kernel
theorem dX6_nextOrder_72 : decode cX6_nextOrder 72 = .ok (.if_icmp .gt 9, 3) := by decide +kernel
theorem dX6_nextOrder_75 : decode cX6_nextOrder 75 = .ok (.iinc 2 (-1), 3) := by decide +kernel
theorem dX6_nextOrder_78 : decode cX6_nextOrder 78 = .ok (.goto (-25), 3) := by decide +kernel
theorem dX6_nextOrder_81 : decode cX6_nextOrder 81 = .ok (.aload_n 0, 1) := by decide +kernel
theorem dX6_nextOrder_82 : decode cX6_nextOrder 82 = .ok (.getfield 9, 3) := by decide +kernel
theorem dX6_nextOrder_85 : decode cX6_nextOrder 85 = .ok (.iload_n 1, 1) := by decide +kernel
theorem dX6_nextOrder_86 : decode cX6_nextOrder 86 = .ok (.iload_n 2, 1) := by decide +kernel
theorem dX6_nextOrder_87 : decode cX6_nextOrder 87 = .ok (.invokestatic 60, 3) := by decide +kernel
theorem dX6_nextOrder_90 : decode cX6_nextOrder 90 = .ok (.iload_n 1, 1) := by decide +kernel
theorem dX6_nextOrder_91 : decode cX6_nextOrder 91 = .ok (.iconst 1, 1) := by decide +kernel
theorem dX6_nextOrder_92 : decode cX6_nextOrder 92 = .ok (.iadd, 1) := by decide +kernel
theorem dX6_nextOrder_93 : decode cX6_nextOrder 93 = .ok (.istore_n 3, 1) := by decide +kernel
theorem dX6_nextOrder_94 : decode cX6_nextOrder 94 = .ok (.aload_n 0, 1) := by decide +kernel
theorem dX6_nextOrder_95 : decode cX6_nextOrder 95 = .ok (.getfield 25, 3) := by decide +kernel
theorem dX6_nextOrder_98 : decode cX6_nextOrder 98 = .ok (.getfield 57, 3) := by decide +kernel
theorem dX6_nextOrder_101 : decode cX6_nextOrder 101 = .ok (.iconst 1, 1) := by decide +kernel
theorem dX6_nextOrder_102 : decode cX6_nextOrder 102 = .ok (.isub, 1) := by decide +kernel
theorem dX6_nextOrder_103 : decode cX6_nextOrder 103 = .ok (.istore 4, 2) := by decide +kernel
theorem dX6_nextOrder_105 : decode cX6_nextOrder 105 = .ok (.iload_n 3, 1) := by decide +kernel
theorem dX6_nextOrder_106 : decode cX6_nextOrder 106 = .ok (.iload 4, 2) := by decide +kernel
theorem dX6_nextOrder_108 : decode cX6_nextOrder 108 = .ok (.if_icmp .ge 22, 3) := by decide +kernel
theorem dX6_nextOrder_111 : decode cX6_nextOrder 111 = .ok (.aload_n 0, 1) := by decide +kernel
theorem dX6_nextOrder_112 : decode cX6_nextOrder 112 = .ok (.getfield 9, 3) := by decide +kernel
theorem dX6_nextOrder_115 : decode cX6_nextOrder 115 = .ok (.iload_n 3, 1) := by decide +kernel
theorem dX6_nextOrder_116 : decode cX6_nextOrder 116 = .ok (.iload 4, 2) := by decide +kernel
theorem dX6_nextOrder_118 : decode cX6_nextOrder 118 = .ok (.invokestatic 60, 3) := by decide +kernel
theorem dX6_nextOrder_121 : decode cX6_nextOrder 121 = .ok (.iinc 3 1, 3) := by decide +kernel
theorem dX6_nextOrder_124 : decode cX6_nextOrder 124 = .ok (.iinc 4 (-1), 3) := by decide +kernel
theorem dX6_nextOrder_127 : decode cX6_nextOrder 127 = .ok (.goto (-22), 3) := by decide +kernel
theorem dX6_nextOrder_130 : decode cX6_nextOrder 130 = .ok (.iconst 1, 1) := by decide +kernel
theorem dX6_nextOrder_131 : decode cX6_nextOrder 131 = .ok (.ireturn, 1) := by decide +kernel
theorem dX7_init_0 : decode cX7_init 0 = .ok (.aload_n 0, 1) := by decide +kernel
theorem dX7_init_1 : decode cX7_init 1 = .ok (.invokespecial 3, 3) := by decide +kernel
theorem dX7_init_4 : decode cX7_init 4 = .ok (.aload_n 0, 1) := by decide +kernel
theorem dX7_init_5 : decode cX7_init 5 = .ok (.new 9, 3) := by decide +kernel
theorem dX7_init_8 : decode cX7_init 8 = .ok (.dup, 1) := by decide +kernel
theorem dX7_init_9 : decode cX7_init 9 = .ok (.invokespecial 11, 3) := by decide +kernel
theorem dX7_init_12 : decode cX7_init 12 = .ok (.putfield 12, 3) := by decide +kernel
theorem dX7_init_15 : decode cX7_init 15 = .ok (.aload_n 0, 1) := by decide +kernel
theorem dX7_init_16 : decode cX7_init 16 = .ok (.new 9, 3) := by decide +kernel
theorem dX7_init_19 : decode cX7_init 19 = .ok (.dup, 1) := by decide +kernel
theorem dX7_init_20 : decode cX7_init 20 = .ok (.invokespecial 11, 3) := by decide +kernel
theorem dX7_init_23 : decode cX7_init 23 = .ok (.putfield 18, 3) := by decide +kernel
theorem dX7_init_26 : decode cX7_init 26 = .ok (.aload_n 0, 1) := by decide +kernel
theorem dX7_init_27 : decode cX7_init 27 = .ok (.bipush 8, 2) := by decide +kernel
theorem dX7_init_29 : decode cX7_init 29 = .ok (.newarray .int, 2) := by decide +kernel
theorem dX7_init_31 : decode cX7_init 31 = .ok (.putfield 21, 3) := by decide +kernel
theorem dX7_init_34 : decode cX7_init 34 = .ok (.aload_n 0, 1) := by decide +kernel
theorem dX7_init_35 : decode cX7_init 35 = .ok (.bipush 8, 2) := by decide +kernel
theorem dX7_init_37 : decode cX7_init 37 = .ok (.newarray .int, 2) := by decide +kernel
theorem dX7_init_39 : decode cX7_init 39 = .ok (.putfield 25, 3) := by decide +kernel
theorem dX7_init_42 : decode cX7_init 42 = .ok (.aload_n 0, 1) := by decide +kernel
theorem dX7_init_43 : decode cX7_init 43 = .ok (.iconst 0, 1) := by decide +kernel
theorem dX7_init_44 : decode cX7_init 44 = .ok (.putfield 28, 3) := by decide +kernel
theorem dX7_init_47 : decode cX7_init 47 = .ok (.aload_n 0, 1) := by decide +kernel
theorem dX7_init_48 : decode cX7_init 48 = .ok (.iconst 0, 1) := by decide +kernel
theorem dX7_init_49 : decode cX7_init 49 = .ok (.putfield 32, 3) := by decide +kernel
theorem dX7_init_52 : decode cX7_init 52 = .ok (.aload_n 0, 1) := by decide +kernel
theorem dX7_init_53 : decode cX7_init 53 = .ok (.iconst 0, 1) := by decide +kernel
theorem dX7_init_54 : decode cX7_init 54 = .ok (.putfield 35, 3) := by decide +kernel
theorem dX7_init_57 : decode cX7_init 57 = .ok (.aload_n 0, 1) := by decide +kernel
theorem dX7_init_58 : decode cX7_init 58 = .ok (.iconst 0, 1) := by decide +kernel
theorem dX7_init_59 : decode cX7_init 59 = .ok (.putfield 38, 3) := by decide +kernel
theorem dX7_init_62 : decode cX7_init 62 = .ok (.aload_n 0, 1) := by decide +kernel
theorem dX7_init_63 : decode cX7_init 63 = .ok (.aload_n 1, 1) := by decide +kernel
theorem dX7_init_64 : decode cX7_init 64 = .ok (.putfield 41, 3) := by decide +kernel
theorem dX7_init_67 : decode cX7_init 67 = .ok (.aload_n 0, 1) := by decide +kernel
theorem dX7_init_68 : decode cX7_init 68 = .ok (.aload_n 2, 1) := by decide +kernel
theorem dX7_init_69 : decode cX7_init 69 = .ok (.putfield 45, 3) := by decide +kernel
theorem dX7_init_72 : decode cX7_init 72 = .ok (.return_, 1) := by decide +kernel
theorem dX7_search_0 : decode cX7_search 0 = .ok (.aload_n 0, 1) := by decide +kernel
theorem dX7_search_1 : decode cX7_search 1 = .ok (.ldc 49, 2) := by decide +kernel
theorem dX7_search_3 : decode cX7_search 3 = .ok (.putfield 28, 3) := by decide +kernel
theorem dX7_search_6 : decode cX7_search 6 = .ok (.aload_n 0, 1) := by decide +kernel
theorem dX7_search_7 : decode cX7_search 7 = .ok (.getfield 12, 3) := by decide +kernel
theorem dX7_search_10 : decode cX7_search 10 = .ok (.invokevirtual 50, 3) := by decide +kernel
theorem dX7_search_13 : decode cX7_search 13 = .ok (.iconst 1, 1) := by decide +kernel
theorem dX7_search_14 : decode cX7_search 14 = .ok (.istore 5, 2) := by decide +kernel
theorem dX7_search_16 : decode cX7_search 16 = .ok (.iconst 0, 1) := by decide +kernel
theorem dX7_search_17 : decode cX7_search 17 = .ok (.istore 6, 2) := by decide +kernel
theorem dX7_search_19 : decode cX7_search 19 = .ok (.iload 6, 2) := by decide +kernel
theorem dX7_search_21 : decode cX7_search 21 = .ok (.sipush 281, 3) := by decide +kernel
theorem dX7_search_24 : decode cX7_search 24 = .ok (.if_icmp .ge 145, 3) := by decide +kernel
theorem dX7_search_27 : decode cX7_search 27 = .ok (.iload 5, 2) := by decide +kernel
theorem dX7_search_29 : decode cX7_search 29 = .ok (.ifCond .eq 140, 3) := by decide +kernel
theorem dX7_search_32 : decode cX7_search 32 = .ok (.aload_n 0, 1) := by decide +kernel
theorem dX7_search_33 : decode cX7_search 33 = .ok (.getfield 12, 3) := by decide +kernel
theorem dX7_search_36 : decode cX7_search 36 = .ok (.aload_n 1, 1) := by decide +kernel
theorem dX7_search_37 : decode cX7_search 37 = .ok (.aload_n 0, 1) := by decide +kernel
theorem dX7_search_38 : decode cX7_search 38 = .ok (.getfield 21, 3) := by decide +kernel
theorem dX7_search_41 : decode cX7_search 41 = .ok (.invokevirtual 53, 3) := by decide +kernel
theorem dX7_search_44 : decode cX7_search 44 = .ok (.aload_n 0, 1) := by decide +kernel
theorem dX7_search_45 : decode cX7_search 45 = .ok (.getfield 45, 3) := by decide +kernel
theorem dX7_search_48 : decode cX7_search 48 = .ok (.aload_n 0, 1) := by decide +kernel
theorem dX7_search_49 : decode cX7_search 49 = .ok (.getfield 41, 3) := by decide +kernel
theorem dX7_search_52 : decode cX7_search 52 = .ok (.getfield 57, 3) := by decide +kernel
theorem dX7_search_55 : decode cX7_search 55 = .ok (.aload_n 0, 1) := by decide +kernel
theorem dX7_search_56 : decode cX7_search 56 = .ok (.getfield 21, 3) := by decide +kernel
theorem dX7_search_59 : decode cX7_search 59 = .ok (.iload_n 2, 1) := by decide +kernel
theorem dX7_search_60 : decode cX7_search 60 = .ok (.iconst 1, 1) := by decide +kernel
theorem dX7_search_61 : decode cX7_search 61 = .ok (.ldc 49, 2) := by decide +kernel
theorem dX7_search_63 : decode cX7_search 63 = .ok (.invokevirtual 62, 3) := by decide +kernel
theorem dX7_search_66 : decode cX7_search 66 = .ok (.istore 7, 2) := by decide +kernel
theorem dX7_search_68 : decode cX7_search 68 = .ok (.iload_n 3, 1) := by decide +kernel
theorem dX7_search_69 : decode cX7_search 69 = .ok (.iconst 2, 1) := by decide +kernel
theorem dX7_search_70 : decode cX7_search 70 = .ok (.if_icmp .ne 26, 3) := by decide +kernel
theorem dX7_search_73 : decode cX7_search 73 = .ok (.iload 7, 2) := by decide +kernel
theorem dX7_search_75 : decode cX7_search 75 = .ok (.aload_n 0, 1) := by decide +kernel
theorem dX7_search_76 : decode cX7_search 76 = .ok (.getfield 28, 3) := by decide +kernel
theorem dX7_search_79 : decode cX7_search 79 = .ok (.if_icmp .ge 17, 3) := by decide +kernel
theorem dX7_search_82 : decode cX7_search 82 = .ok (.iload 7, 2) := by decide +kernel
theorem dX7_search_84 : decode cX7_search 84 = .ok (.aload_n 0, 1) := by decide +kernel
theorem dX7_search_85 : decode cX7_search 85 = .ok (.iload_n 2, 1) := by decide +kernel
theorem dX7_search_86 : decode cX7_search 86 = .ok (.iconst 1, 1) := by decide +kernel
theorem dX7_search_87 : decode cX7_search 87 = .ok (.iadd, 1) := by decide +kernel
theorem dX7_search_88 : decode cX7_search 88 = .ok (.iload 4, 2) := by decide +kernel
theorem dX7_search_90 : decode cX7_search 90 = .ok (.invokevirtual 68, 3) := by decide +kernel
theorem dX7_search_93 : decode cX7_search 93 = .ok (.iadd, 1) := by decide +kernel
theorem dX7_search_94 : decode cX7_search 94 = .ok (.istore 7, 2) := by decide +kernel
theorem dX7_search_96 : decode cX7_search 96 = .ok (.iload 7, 2) := by decide +kernel
theorem dX7_search_98 : decode cX7_search 98 = .ok (.aload_n 0, 1) := by decide +kernel
theorem dX7_search_99 : decode cX7_search 99 = .ok (.getfield 28, 3) := by decide +kernel
theorem dX7_search_102 : decode cX7_search 102 = .ok (.if_icmp .ge 42, 3) := by decide +kernel
theorem dX7_search_105 : decode cX7_search 105 = .ok (.aload_n 0, 1) := by decide +kernel
theorem dX7_search_106 : decode cX7_search 106 = .ok (.iload 7, 2) := by decide +kernel
theorem dX7_search_108 : decode cX7_search 108 = .ok (.putfield 28, 3) := by decide +kernel
theorem dX7_search_111 : decode cX7_search 111 = .ok (.aload_n 0, 1) := by decide +kernel
theorem dX7_search_112 : decode cX7_search 112 = .ok (.aload_n 0, 1) := by decide +kernel
theorem dX7_search_113 : decode cX7_search 113 = .ok (.getfield 12, 3) := by decide +kernel
theorem dX7_search_116 : decode cX7_search 116 = .ok (.getfield 72, 3) := by decide +kernel
theorem dX7_search_119 : decode cX7_search 119 = .ok (.putfield 32, 3) := by decide +kernel
theorem dX7_search_122 : decode cX7_search 122 = .ok (.aload_n 0, 1) := by decide +kernel
theorem dX7_search_123 : decode cX7_search 123 = .ok (.aload_n 0, 1) := by decide +kernel
theorem dX7_search_124 : decode cX7_search 124 = .ok (.getfield 12, 3) := by decide +kernel
theorem dX7_search_127 : decode cX7_search 127 = .ok (.getfield 73, 3) := by decide +kernel
theorem dX7_search_130 : decode cX7_search 130 = .ok (.putfield 35, 3) := by decide +kernel
theorem dX7_search_133 : decode cX7_search 133 = .ok (.aload_n 0, 1) := by decide +kernel
theorem dX7_search_134 : decode cX7_search 134 = .ok (.aload_n 0, 1) := by decide +kernel
theorem dX7_search_135 : decode cX7_search 135 = .ok (.getfield 12, 3) := by decide +kernel
theorem dX7_search_138 : decode cX7_search 138 = .ok (.getfield 74, 3) := by decide +kernel
theorem dX7_search_141 : decode cX7_search 141 = .ok (.putfield 38, 3) := by decide +kernel
theorem dX7_search_144 : decode cX7_search 144 = .ok (.aload_n 0, 1) := by decide +kernel
theorem dX7_search_145 : decode cX7_search 145 = .ok (.getfield 12, 3) := by decide +kernel
theorem dX7_search_148 : decode cX7_search 148 = .ok (.aload_n 1, 1) := by decide +kernel
theorem dX7_search_149 : decode cX7_search 149 = .ok (.aload_n 0, 1) := by decide +kernel
theorem dX7_search_150 : decode cX7_search 150 = .ok (.getfield 41, 3) := by decide +kernel
theorem dX7_search_153 : decode cX7_search 153 = .ok (.getfield 75, 3) := by decide +kernel
theorem dX7_search_156 : decode cX7_search 156 = .ok (.iload 4, 2) := by decide +kernel
theorem dX7_search_158 : decode cX7_search 158 = .ok (.invokevirtual 78, 3) := by decide +kernel
theorem dX7_search_161 : decode cX7_search 161 = .ok (.istore 5, 2) := by decide +kernel
theorem dX7_search_163 : decode cX7_search 163 = .ok (.iinc 6 1, 3) := by decide +kernel
theorem dX7_search_166 : decode cX7_search 166 = .ok (.goto (-147), 3) := by decide +kernel
theorem dX7_search_169 : decode cX7_search 169 = .ok (.return_, 1) := by decide +kernel
theorem dX7_leastTomorrow_0 : decode cX7_leastTomorrow 0 = .ok (.ldc 49, 2) := by decide +kernel
theorem dX7_leastTomorrow_2 : decode cX7_leastTomorrow 2 = .ok (.istore_n 3, 1) := by decide +kernel
theorem dX7_leastTomorrow_3 : decode cX7_leastTomorrow 3 = .ok (.aload_n 0, 1) := by decide +kernel
theorem dX7_leastTomorrow_4 : decode cX7_leastTomorrow 4 = .ok (.getfield 18, 3) := by decide +kernel
theorem dX7_leastTomorrow_7 : decode cX7_leastTomorrow 7 = .ok (.invokevirtual 50, 3) := by decide +kernel
theorem dX7_leastTomorrow_10 : decode cX7_leastTomorrow 10 = .ok (.iconst 1, 1) := by decide +kernel
theorem dX7_leastTomorrow_11 : decode cX7_leastTomorrow 11 = .ok (.istore 4, 2) := by decide +kernel
theorem dX7_leastTomorrow_13 : decode cX7_leastTomorrow 13 = .ok (.iconst 0, 1) := by decide +kernel
theorem dX7_leastTomorrow_14 : decode cX7_leastTomorrow 14 = .ok (.istore 5, 2) := by decide +kernel
theorem dX7_leastTomorrow_16 : decode cX7_leastTomorrow 16 = .ok (.iload 5, 2) := by decide +kernel
theorem dX7_leastTomorrow_18 : decode cX7_leastTomorrow 18 = .ok (.sipush 281, 3) := by decide +kernel
theorem dX7_leastTomorrow_21 : decode cX7_leastTomorrow 21 = .ok (.if_icmp .ge 81, 3) := by decide +kernel
theorem dX7_leastTomorrow_24 : decode cX7_leastTomorrow 24 = .ok (.iload 4, 2) := by decide +kernel
theorem dX7_leastTomorrow_26 : decode cX7_leastTomorrow 26 = .ok (.ifCond .eq 76, 3) := by decide +kernel
theorem dX7_leastTomorrow_29 : decode cX7_leastTomorrow 29 = .ok (.iload_n 3, 1) := by decide +kernel
theorem dX7_leastTomorrow_30 : decode cX7_leastTomorrow 30 = .ok (.ifCond .le 72, 3) := by decide +kernel
theorem dX7_leastTomorrow_33 : decode cX7_leastTomorrow 33 = .ok (.aload_n 0, 1) := by decide +kernel
theorem dX7_leastTomorrow_34 : decode cX7_leastTomorrow 34 = .ok (.getfield 18, 3) := by decide +kernel
theorem dX7_leastTomorrow_37 : decode cX7_leastTomorrow 37 = .ok (.aload_n 0, 1) := by decide +kernel
theorem dX7_leastTomorrow_38 : decode cX7_leastTomorrow 38 = .ok (.getfield 21, 3) := by decide +kernel
theorem dX7_leastTomorrow_41 : decode cX7_leastTomorrow 41 = .ok (.aload_n 0, 1) := by decide +kernel
theorem dX7_leastTomorrow_42 : decode cX7_leastTomorrow 42 = .ok (.getfield 25, 3) := by decide +kernel
theorem dX7_leastTomorrow_45 : decode cX7_leastTomorrow 45 = .ok (.invokevirtual 53, 3) := by decide +kernel
theorem dX7_leastTomorrow_48 : decode cX7_leastTomorrow 48 = .ok (.iload_n 3, 1) := by decide +kernel
theorem dX7_leastTomorrow_49 : decode cX7_leastTomorrow 49 = .ok (.aload_n 0, 1) := by decide +kernel
theorem dX7_leastTomorrow_50 : decode cX7_leastTomorrow 50 = .ok (.getfield 45, 3) := by decide +kernel
theorem dX7_leastTomorrow_53 : decode cX7_leastTomorrow 53 = .ok (.aload_n 0, 1) := by decide +kernel
theorem dX7_leastTomorrow_54 : decode cX7_leastTomorrow 54 = .ok (.getfield 41, 3) := by decide +kernel
theorem dX7_leastTomorrow_57 : decode cX7_leastTomorrow 57 = .ok (.getfield 57, 3) := by decide +kernel
theorem dX7_leastTomorrow_60 : decode cX7_leastTomorrow 60 = .ok (.aload_n 0, 1) := by decide +kernel
theorem dX7_leastTomorrow_61 : decode cX7_leastTomorrow 61 = .ok (.getfield 25, 3) := by decide +kernel
theorem dX7_leastTomorrow_64 : decode cX7_leastTomorrow 64 = .ok (.iload_n 1, 1) := by decide +kernel
theorem dX7_leastTomorrow_65 : decode cX7_leastTomorrow 65 = .ok (.iconst 1, 1) := by decide +kernel
theorem dX7_leastTomorrow_66 : decode cX7_leastTomorrow 66 = .ok (.ldc 49, 2) := by decide +kernel
theorem dX7_leastTomorrow_68 : decode cX7_leastTomorrow 68 = .ok (.invokevirtual 62, 3) := by decide +kernel
theorem dX7_leastTomorrow_71 : decode cX7_leastTomorrow 71 = .ok (.invokestatic 82, 3) := by decide +kernel
theorem dX7_leastTomorrow_74 : decode cX7_leastTomorrow 74 = .ok (.istore_n 3, 1) := by decide +kernel
theorem dX7_leastTomorrow_75 : decode cX7_leastTomorrow 75 = .ok (.aload_n 0, 1) := by decide +kernel
theorem dX7_leastTomorrow_76 : decode cX7_leastTomorrow 76 = .ok (.getfield 18, 3) := by decide +kernel
theorem dX7_leastTomorrow_79 : decode cX7_leastTomorrow 79 = .ok (.aload_n 0, 1) := by decide +kernel
theorem dX7_leastTomorrow_80 : decode cX7_leastTomorrow 80 = .ok (.getfield 21, 3) := by decide +kernel
theorem dX7_leastTomorrow_83 : decode cX7_leastTomorrow 83 = .ok (.aload_n 0, 1) := by decide +kernel
theorem dX7_leastTomorrow_84 : decode cX7_leastTomorrow 84 = .ok (.getfield 41, 3) := by decide +kernel
theorem dX7_leastTomorrow_87 : decode cX7_leastTomorrow 87 = .ok (.getfield 75, 3) := by decide +kernel
theorem dX7_leastTomorrow_90 : decode cX7_leastTomorrow 90 = .ok (.iload_n 2, 1) := by decide +kernel
theorem dX7_leastTomorrow_91 : decode cX7_leastTomorrow 91 = .ok (.invokevirtual 78, 3) := by decide +kernel
theorem dX7_leastTomorrow_94 : decode cX7_leastTomorrow 94 = .ok (.istore 4, 2) := by decide +kernel
theorem dX7_leastTomorrow_96 : decode cX7_leastTomorrow 96 = .ok (.iinc 5 1, 3) := by decide +kernel
theorem dX7_leastTomorrow_99 : decode cX7_leastTomorrow 99 = .ok (.goto (-83), 3) := by decide +kernel
theorem dX7_leastTomorrow_102 : decode cX7_leastTomorrow 102 = .ok (.iload_n 3, 1) := by decide +kernel
theorem dX7_leastTomorrow_103 : decode cX7_leastTomorrow 103 = .ok (.ireturn, 1) := by decide +kernel
theorem dX8_init_0 : decode cX8_init 0 = .ok (.aload_n 0, 1) := by decide +kernel
theorem dX8_init_1 : decode cX8_init 1 = .ok (.invokespecial 3, 3) := by decide +kernel
theorem dX8_init_4 : decode cX8_init 4 = .ok (.aload_n 0, 1) := by decide +kernel
theorem dX8_init_5 : decode cX8_init 5 = .ok (.iconst 0, 1) := by decide +kernel
theorem dX8_init_6 : decode cX8_init 6 = .ok (.putfield 9, 3) := by decide +kernel
theorem dX8_init_9 : decode cX8_init 9 = .ok (.aload_n 0, 1) := by decide +kernel
theorem dX8_init_10 : decode cX8_init 10 = .ok (.iconst 0, 1) := by decide +kernel
theorem dX8_init_11 : decode cX8_init 11 = .ok (.putfield 15, 3) := by decide +kernel
theorem dX8_init_14 : decode cX8_init 14 = .ok (.aload_n 0, 1) := by decide +kernel
theorem dX8_init_15 : decode cX8_init 15 = .ok (.iconst 0, 1) := by decide +kernel
theorem dX8_init_16 : decode cX8_init 16 = .ok (.putfield 18, 3) := by decide +kernel
theorem dX8_init_19 : decode cX8_init 19 = .ok (.return_, 1) := by decide +kernel
theorem dX8_toNothing_0 : decode cX8_toNothing 0 = .ok (.aload_n 0, 1) := by decide +kernel
theorem dX8_toNothing_1 : decode cX8_toNothing 1 = .ok (.iconst 0, 1) := by decide +kernel
theorem dX8_toNothing_2 : decode cX8_toNothing 2 = .ok (.putfield 9, 3) := by decide +kernel
theorem dX8_toNothing_5 : decode cX8_toNothing 5 = .ok (.aload_n 0, 1) := by decide +kernel
theorem dX8_toNothing_6 : decode cX8_toNothing 6 = .ok (.iconst 0, 1) := by decide +kernel
theorem dX8_toNothing_7 : decode cX8_toNothing 7 = .ok (.putfield 15, 3) := by decide +kernel
theorem dX8_toNothing_10 : decode cX8_toNothing 10 = .ok (.aload_n 0, 1) := by decide +kernel
theorem dX8_toNothing_11 : decode cX8_toNothing 11 = .ok (.iconst 0, 1) := by decide +kernel
theorem dX8_toNothing_12 : decode cX8_toNothing 12 = .ok (.putfield 18, 3) := by decide +kernel
theorem dX8_toNothing_15 : decode cX8_toNothing 15 = .ok (.return_, 1) := by decide +kernel
theorem dX8_toNext_0 : decode cX8_toNext 0 = .ok (.aload_n 0, 1) := by decide +kernel
theorem dX8_toNext_1 : decode cX8_toNext 1 = .ok (.getfield 18, 3) := by decide +kernel
theorem dX8_toNext_4 : decode cX8_toNext 4 = .ok (.ifCond .le 44, 3) := by decide +kernel
theorem dX8_toNext_7 : decode cX8_toNext 7 = .ok (.aload_n 0, 1) := by decide +kernel
theorem dX8_toNext_8 : decode cX8_toNext 8 = .ok (.getfield 18, 3) := by decide +kernel
theorem dX8_toNext_11 : decode cX8_toNext 11 = .ok (.iload_n 3, 1) := by decide +kernel
theorem dX8_toNext_12 : decode cX8_toNext 12 = .ok (.if_icmp .ge 36, 3) := by decide +kernel
theorem dX8_toNext_15 : decode cX8_toNext 15 = .ok (.aload_n 1, 1) := by decide +kernel
theorem dX8_toNext_16 : decode cX8_toNext 16 = .ok (.aload_n 0, 1) := by decide +kernel
theorem dX8_toNext_17 : decode cX8_toNext 17 = .ok (.getfield 9, 3) := by decide +kernel
theorem dX8_toNext_20 : decode cX8_toNext 20 = .ok (.aload_n 0, 1) := by decide +kernel
theorem dX8_toNext_21 : decode cX8_toNext 21 = .ok (.getfield 15, 3) := by decide +kernel
theorem dX8_toNext_24 : decode cX8_toNext 24 = .ok (.aload_n 0, 1) := by decide +kernel
theorem dX8_toNext_25 : decode cX8_toNext 25 = .ok (.getfield 18, 3) := by decide +kernel
theorem dX8_toNext_28 : decode cX8_toNext 28 = .ok (.iconst 1, 1) := by decide +kernel
theorem dX8_toNext_29 : decode cX8_toNext 29 = .ok (.iadd, 1) := by decide +kernel
theorem dX8_toNext_30 : decode cX8_toNext 30 = .ok (.invokestatic 21, 3) := by decide +kernel
theorem dX8_toNext_33 : decode cX8_toNext 33 = .ok (.ifCond .eq 15, 3) := by decide +kernel
theorem dX8_toNext_36 : decode cX8_toNext 36 = .ok (.aload_n 0, 1) := by decide +kernel
theorem dX8_toNext_37 : decode cX8_toNext 37 = .ok (.dup, 1) := by decide +kernel
theorem dX8_toNext_38 : decode cX8_toNext 38 = .ok (.getfield 18, 3) := by decide +kernel
theorem dX8_toNext_41 : decode cX8_toNext 41 = .ok (.iconst 1, 1) := by decide +kernel
theorem dX8_toNext_42 : decode cX8_toNext 42 = .ok (.iadd, 1) := by decide +kernel
theorem dX8_toNext_43 : decode cX8_toNext 43 = .ok (.putfield 18, 3) := by decide +kernel
theorem dX8_toNext_46 : decode cX8_toNext 46 = .ok (.iconst 1, 1) := by decide +kernel
theorem dX8_toNext_47 : decode cX8_toNext 47 = .ok (.ireturn, 1) := by decide +kernel
theorem dX8_toNext_48 : decode cX8_toNext 48 = .ok (.aload_n 0, 1) := by decide +kernel
theorem dX8_toNext_49 : decode cX8_toNext 49 = .ok (.getfield 9, 3) := by decide +kernel
theorem dX8_toNext_52 : decode cX8_toNext 52 = .ok (.bipush 8, 2) := by decide +kernel
theorem dX8_toNext_54 : decode cX8_toNext 54 = .ok (.imul, 1) := by decide +kernel
theorem dX8_toNext_55 : decode cX8_toNext 55 = .ok (.aload_n 0, 1) := by decide +kernel
theorem dX8_toNext_56 : decode cX8_toNext 56 = .ok (.getfield 15, 3) := by decide +kernel
theorem dX8_toNext_59 : decode cX8_toNext 59 = .ok (.iadd, 1) := by decide +kernel
theorem dX8_toNext_60 : decode cX8_toNext 60 = .ok (.iconst 1, 1) := by decide +kernel
theorem dX8_toNext_61 : decode cX8_toNext 61 = .ok (.iadd, 1) := by decide +kernel
theorem dX8_toNext_62 : decode cX8_toNext 62 = .ok (.istore 4, 2) := by decide +kernel
theorem dX8_toNext_64 : decode cX8_toNext 64 = .ok (.iload 4, 2) := by decide +kernel
theorem dX8_toNext_66 : decode cX8_toNext 66 = .ok (.iload_n 2, 1) := by decide +kernel
theorem dX8_toNext_67 : decode cX8_toNext 67 = .ok (.bipush 8, 2) := by decide +kernel
theorem dX8_toNext_69 : decode cX8_toNext 69 = .ok (.imul, 1) := by decide +kernel
theorem dX8_toNext_70 : decode cX8_toNext 70 = .ok (.if_icmp .ge 69, 3) := by decide +kernel
theorem dX8_toNext_73 : decode cX8_toNext 73 = .ok (.aload_n 0, 1) := by decide +kernel
theorem dX8_toNext_74 : decode cX8_toNext 74 = .ok (.iload 4, 2) := by decide +kernel
theorem dX8_toNext_76 : decode cX8_toNext 76 = .ok (.bipush 8, 2) := by decide +kernel
theorem dX8_toNext_78 : decode cX8_toNext 78 = .ok (.idiv, 1) := by decide +kernel
theorem dX8_toNext_79 : decode cX8_toNext 79 = .ok (.putfield 9, 3) := by decide +kernel
theorem dX8_toNext_82 : decode cX8_toNext 82 = .ok (.aload_n 0, 1) := by decide +kernel
theorem dX8_toNext_83 : decode cX8_toNext 83 = .ok (.iload 4, 2) := by decide +kernel
theorem dX8_toNext_85 : decode cX8_toNext 85 = .ok (.bipush 8, 2) := by decide +kernel
theorem dX8_toNext_87 : decode cX8_toNext 87 = .ok (.irem, 1) := by decide +kernel
theorem dX8_toNext_88 : decode cX8_toNext 88 = .ok (.putfield 15, 3) := by decide +kernel
theorem dX8_toNext_91 : decode cX8_toNext 91 = .ok (.aload_n 0, 1) := by decide +kernel
theorem dX8_toNext_92 : decode cX8_toNext 92 = .ok (.getfield 15, 3) := by decide +kernel
theorem dX8_toNext_95 : decode cX8_toNext 95 = .ok (.iload_n 2, 1) := by decide +kernel
theorem dX8_toNext_96 : decode cX8_toNext 96 = .ok (.if_icmp .ge 37, 3) := by decide +kernel
theorem dX8_toNext_99 : decode cX8_toNext 99 = .ok (.aload_n 0, 1) := by decide +kernel
theorem dX8_toNext_100 : decode cX8_toNext 100 = .ok (.getfield 9, 3) := by decide +kernel
theorem dX8_toNext_103 : decode cX8_toNext 103 = .ok (.aload_n 0, 1) := by decide +kernel
theorem dX8_toNext_104 : decode cX8_toNext 104 = .ok (.getfield 15, 3) := by decide +kernel
theorem dX8_toNext_107 : decode cX8_toNext 107 = .ok (.if_icmp .eq 26, 3) := by decide +kernel
theorem dX8_toNext_110 : decode cX8_toNext 110 = .ok (.aload_n 1, 1) := by decide +kernel
theorem dX8_toNext_111 : decode cX8_toNext 111 = .ok (.aload_n 0, 1) := by decide +kernel
theorem dX8_toNext_112 : decode cX8_toNext 112 = .ok (.getfield 9, 3) := by decide +kernel
theorem dX8_toNext_115 : decode cX8_toNext 115 = .ok (.aload_n 0, 1) := by decide +kernel
theorem dX8_toNext_116 : decode cX8_toNext 116 = .ok (.getfield 15, 3) := by decide +kernel
theorem dX8_toNext_119 : decode cX8_toNext 119 = .ok (.iconst 1, 1) := by decide +kernel
theorem dX8_toNext_120 : decode cX8_toNext 120 = .ok (.invokestatic 21, 3) := by decide +kernel
theorem dX8_toNext_123 : decode cX8_toNext 123 = .ok (.ifCond .eq 10, 3) := by decide +kernel
theorem dX8_toNext_126 : decode cX8_toNext 126 = .ok (.aload_n 0, 1) := by decide +kernel
theorem dX8_toNext_127 : decode cX8_toNext 127 = .ok (.iconst 1, 1) := by decide +kernel
theorem dX8_toNext_128 : decode cX8_toNext 128 = .ok (.putfield 18, 3) := by decide +kernel
theorem dX8_toNext_131 : decode cX8_toNext 131 = .ok (.iconst 1, 1) := by decide +kernel
theorem dX8_toNext_132 : decode cX8_toNext 132 = .ok (.ireturn, 1) := by decide +kernel
theorem dX8_toNext_133 : decode cX8_toNext 133 = .ok (.iinc 4 1, 3) := by decide +kernel
theorem dX8_toNext_136 : decode cX8_toNext 136 = .ok (.goto (-72), 3) := by decide +kernel
theorem dX8_toNext_139 : decode cX8_toNext 139 = .ok (.iconst 0, 1) := by decide +kernel
theorem dX8_toNext_140 : decode cX8_toNext 140 = .ok (.ireturn, 1) := by decide +kernel
theorem dX8_fill_0 : decode cX8_fill 0 = .ok (.aload_n 1, 1) := by decide +kernel
theorem dX8_fill_1 : decode cX8_fill 1 = .ok (.aload_n 2, 1) := by decide +kernel
theorem dX8_fill_2 : decode cX8_fill 2 = .ok (.invokestatic 25, 3) := by decide +kernel
theorem dX8_fill_5 : decode cX8_fill 5 = .ok (.aload_n 2, 1) := by decide +kernel
theorem dX8_fill_6 : decode cX8_fill 6 = .ok (.aload_n 0, 1) := by decide +kernel
theorem dX8_fill_7 : decode cX8_fill 7 = .ok (.getfield 9, 3) := by decide +kernel
theorem dX8_fill_10 : decode cX8_fill 10 = .ok (.dup2, 1) := by decide +kernel
theorem dX8_fill_11 : decode cX8_fill 11 = .ok (.iaload, 1) := by decide +kernel
theorem dX8_fill_12 : decode cX8_fill 12 = .ok (.aload_n 0, 1) := by decide +kernel
theorem dX8_fill_13 : decode cX8_fill 13 = .ok (.getfield 18, 3) := by decide +kernel
theorem dX8_fill_16 : decode cX8_fill 16 = .ok (.isub, 1) := by decide +kernel
theorem dX8_fill_17 : decode cX8_fill 17 = .ok (.iastore, 1) := by decide +kernel
theorem dX8_fill_18 : decode cX8_fill 18 = .ok (.aload_n 2, 1) := by decide +kernel
theorem dX8_fill_19 : decode cX8_fill 19 = .ok (.aload_n 0, 1) := by decide +kernel
theorem dX8_fill_20 : decode cX8_fill 20 = .ok (.getfield 15, 3) := by decide +kernel
theorem dX8_fill_23 : decode cX8_fill 23 = .ok (.dup2, 1) := by decide +kernel
theorem dX8_fill_24 : decode cX8_fill 24 = .ok (.iaload, 1) := by decide +kernel
theorem dX8_fill_25 : decode cX8_fill 25 = .ok (.aload_n 0, 1) := by decide +kernel
theorem dX8_fill_26 : decode cX8_fill 26 = .ok (.getfield 18, 3) := by decide +kernel
theorem dX8_fill_29 : decode cX8_fill 29 = .ok (.iadd, 1) := by decide +kernel
theorem dX8_fill_30 : decode cX8_fill 30 = .ok (.iastore, 1) := by decide +kernel
theorem dX8_fill_31 : decode cX8_fill 31 = .ok (.return_, 1) := by decide +kernel
theorem dX9_init_0 : decode cX9_init 0 = .ok (.aload_n 0, 1) := by decide +kernel
theorem dX9_init_1 : decode cX9_init 1 = .ok (.invokespecial 3, 3) := by decide +kernel
theorem dX9_init_4 : decode cX9_init 4 = .ok (.aload_n 0, 1) := by decide +kernel
theorem dX9_init_5 : decode cX9_init 5 = .ok (.iconst 2, 1) := by decide +kernel
theorem dX9_init_6 : decode cX9_init 6 = .ok (.newarray .int, 2) := by decide +kernel
theorem dX9_init_8 : decode cX9_init 8 = .ok (.putfield 9, 3) := by decide +kernel
theorem dX9_init_11 : decode cX9_init 11 = .ok (.return_, 1) := by decide +kernel
theorem dX9_readInto_0 : decode cX9_readInto 0 = .ok (.aload_n 1, 1) := by decide +kernel
theorem dX9_readInto_1 : decode cX9_readInto 1 = .ok (.invokevirtual 15, 3) := by decide +kernel
theorem dX9_readInto_4 : decode cX9_readInto 4 = .ok (.iconst 0, 1) := by decide +kernel
theorem dX9_readInto_5 : decode cX9_readInto 5 = .ok (.istore 4, 2) := by decide +kernel
theorem dX9_readInto_7 : decode cX9_readInto 7 = .ok (.iconst 0, 1) := by decide +kernel
theorem dX9_readInto_8 : decode cX9_readInto 8 = .ok (.istore 5, 2) := by decide +kernel
theorem dX9_readInto_10 : decode cX9_readInto 10 = .ok (.iload 5, 2) := by decide +kernel
theorem dX9_readInto_12 : decode cX9_readInto 12 = .ok (.sipush 300, 3) := by decide +kernel
theorem dX9_readInto_15 : decode cX9_readInto 15 = .ok (.if_icmp .ge 51, 3) := by decide +kernel
theorem dX9_readInto_18 : decode cX9_readInto 18 = .ok (.iload 4, 2) := by decide +kernel
theorem dX9_readInto_20 : decode cX9_readInto 20 = .ok (.iload_n 3, 1) := by decide +kernel
theorem dX9_readInto_21 : decode cX9_readInto 21 = .ok (.if_icmp .ge 45, 3) := by decide +kernel
theorem dX9_readInto_24 : decode cX9_readInto 24 = .ok (.aload_n 0, 1) := by decide +kernel
theorem dX9_readInto_25 : decode cX9_readInto 25 = .ok (.aload_n 2, 1) := by decide +kernel
theorem dX9_readInto_26 : decode cX9_readInto 26 = .ok (.iload 4, 2) := by decide +kernel
theorem dX9_readInto_28 : decode cX9_readInto 28 = .ok (.iload_n 3, 1) := by decide +kernel
theorem dX9_readInto_29 : decode cX9_readInto 29 = .ok (.invokevirtual 20, 3) := by decide +kernel
theorem dX9_readInto_32 : decode cX9_readInto 32 = .ok (.istore 6, 2) := by decide +kernel
theorem dX9_readInto_34 : decode cX9_readInto 34 = .ok (.iload 6, 2) := by decide +kernel
theorem dX9_readInto_36 : decode cX9_readInto 36 = .ok (.bipush (-4), 2) := by decide +kernel
theorem dX9_readInto_38 : decode cX9_readInto 38 = .ok (.if_icmp .eq 15, 3) := by decide +kernel
theorem dX9_readInto_41 : decode cX9_readInto 41 = .ok (.aload_n 0, 1) := by decide +kernel
theorem dX9_readInto_42 : decode cX9_readInto 42 = .ok (.aload_n 1, 1) := by decide +kernel
theorem dX9_readInto_43 : decode cX9_readInto 43 = .ok (.aload_n 2, 1) := by decide +kernel
theorem dX9_readInto_44 : decode cX9_readInto 44 = .ok (.iload 4, 2) := by decide +kernel
theorem dX9_readInto_46 : decode cX9_readInto 46 = .ok (.baload, 1) := by decide +kernel
theorem dX9_readInto_47 : decode cX9_readInto 47 = .ok (.invokevirtual 24, 3) := by decide +kernel
theorem dX9_readInto_50 : decode cX9_readInto 50 = .ok (.ifCond .ne 6, 3) := by decide +kernel
theorem dX9_readInto_53 : decode cX9_readInto 53 = .ok (.iload 4, 2) := by decide +kernel
theorem dX9_readInto_55 : decode cX9_readInto 55 = .ok (.ireturn, 1) := by decide +kernel
theorem dX9_readInto_56 : decode cX9_readInto 56 = .ok (.iload 6, 2) := by decide +kernel
theorem dX9_readInto_58 : decode cX9_readInto 58 = .ok (.istore 4, 2) := by decide +kernel
theorem dX9_readInto_60 : decode cX9_readInto 60 = .ok (.iinc 5 1, 3) := by decide +kernel
theorem dX9_readInto_63 : decode cX9_readInto 63 = .ok (.goto (-53), 3) := by decide +kernel
theorem dX9_readInto_66 : decode cX9_readInto 66 = .ok (.bipush (-4), 2) := by decide +kernel
theorem dX9_readInto_68 : decode cX9_readInto 68 = .ok (.ireturn, 1) := by decide +kernel
theorem dX9_behindItem_0 : decode cX9_behindItem 0 = .ok (.aload_n 1, 1) := by decide +kernel
theorem dX9_behindItem_1 : decode cX9_behindItem 1 = .ok (.iload_n 2, 1) := by decide +kernel
theorem dX9_behindItem_2 : decode cX9_behindItem 2 = .ok (.baload, 1) := by decide +kernel
theorem dX9_behindItem_3 : decode cX9_behindItem 3 = .ok (.invokestatic 28, 3) := by decide +kernel
theorem dX9_behindItem_6 : decode cX9_behindItem 6 = .ok (.istore 4, 2) := by decide +kernel
theorem dX9_behindItem_8 : decode cX9_behindItem 8 = .ok (.iload_n 2, 1) := by decide +kernel
theorem dX9_behindItem_9 : decode cX9_behindItem 9 = .ok (.iconst 1, 1) := by decide +kernel
theorem dX9_behindItem_10 : decode cX9_behindItem 10 = .ok (.iadd, 1) := by decide +kernel
theorem dX9_behindItem_11 : decode cX9_behindItem 11 = .ok (.istore 5, 2) := by decide +kernel
theorem dX9_behindItem_13 : decode cX9_behindItem 13 = .ok (.iconst 0, 1) := by decide +kernel
theorem dX9_behindItem_14 : decode cX9_behindItem 14 = .ok (.istore 6, 2) := by decide +kernel
theorem dX9_behindItem_16 : decode cX9_behindItem 16 = .ok (.iload 6, 2) := by decide +kernel
theorem dX9_behindItem_18 : decode cX9_behindItem 18 = .ok (.iload 4, 2) := by decide +kernel
theorem dX9_behindItem_20 : decode cX9_behindItem 20 = .ok (.if_icmp .ge 81, 3) := by decide +kernel
theorem dX9_behindItem_23 : decode cX9_behindItem 23 = .ok (.aload_n 1, 1) := by decide +kernel
theorem dX9_behindItem_24 : decode cX9_behindItem 24 = .ok (.iload 5, 2) := by decide +kernel
theorem dX9_behindItem_26 : decode cX9_behindItem 26 = .ok (.iload_n 3, 1) := by decide +kernel
theorem dX9_behindItem_27 : decode cX9_behindItem 27 = .ok (.invokestatic 32, 3) := by decide +kernel
theorem dX9_behindItem_30 : decode cX9_behindItem 30 = .ok (.istore 7, 2) := by decide +kernel
theorem dX9_behindItem_32 : decode cX9_behindItem 32 = .ok (.iload 7, 2) := by decide +kernel
theorem dX9_behindItem_34 : decode cX9_behindItem 34 = .ok (.iload 5, 2) := by decide +kernel
theorem dX9_behindItem_36 : decode cX9_behindItem 36 = .ok (.if_icmp .eq 9, 3) := by decide +kernel
theorem dX9_behindItem_39 : decode cX9_behindItem 39 = .ok (.iload 7, 2) := by decide +kernel
theorem dX9_behindItem_41 : decode cX9_behindItem 41 = .ok (.iload_n 3, 1) := by decide +kernel
theorem dX9_behindItem_42 : decode cX9_behindItem 42 = .ok (.if_icmp .lt 6, 3) := by decide +kernel
theorem dX9_behindItem_45 : decode cX9_behindItem 45 = .ok (.bipush (-4), 2) := by decide +kernel
theorem dX9_behindItem_47 : decode cX9_behindItem 47 = .ok (.ireturn, 1) := by decide +kernel
theorem dX9_behindItem_48 : decode cX9_behindItem 48 = .ok (.aload_n 0, 1) := by decide +kernel
theorem dX9_behindItem_49 : decode cX9_behindItem 49 = .ok (.getfield 9, 3) := by decide +kernel
theorem dX9_behindItem_52 : decode cX9_behindItem 52 = .ok (.iload 6, 2) := by decide +kernel
theorem dX9_behindItem_54 : decode cX9_behindItem 54 = .ok (.aload_n 1, 1) := by decide +kernel
theorem dX9_behindItem_55 : decode cX9_behindItem 55 = .ok (.iload 5, 2) := by decide +kernel
theorem dX9_behindItem_57 : decode cX9_behindItem 57 = .ok (.iload 7, 2) := by decide +kernel
theorem dX9_behindItem_59 : decode cX9_behindItem 59 = .ok (.invokestatic 35, 3) := by decide +kernel
theorem dX9_behindItem_62 : decode cX9_behindItem 62 = .ok (.iastore, 1) := by decide +kernel
theorem dX9_behindItem_63 : decode cX9_behindItem 63 = .ok (.aload_n 1, 1) := by decide +kernel
theorem dX9_behindItem_64 : decode cX9_behindItem 64 = .ok (.iload 7, 2) := by decide +kernel
theorem dX9_behindItem_66 : decode cX9_behindItem 66 = .ok (.baload, 1) := by decide +kernel
theorem dX9_behindItem_67 : decode cX9_behindItem 67 = .ok (.iload 6, 2) := by decide +kernel
theorem dX9_behindItem_69 : decode cX9_behindItem 69 = .ok (.iload 4, 2) := by decide +kernel
theorem dX9_behindItem_71 : decode cX9_behindItem 71 = .ok (.iconst 1, 1) := by decide +kernel
theorem dX9_behindItem_72 : decode cX9_behindItem 72 = .ok (.isub, 1) := by decide +kernel
theorem dX9_behindItem_73 : decode cX9_behindItem 73 = .ok (.if_icmp .ne 8, 3) := by decide +kernel
theorem dX9_behindItem_76 : decode cX9_behindItem 76 = .ok (.bipush 59, 2) := by decide +kernel
theorem dX9_behindItem_78 : decode cX9_behindItem 78 = .ok (.goto 5, 3) := by decide +kernel
theorem dX9_behindItem_81 : decode cX9_behindItem 81 = .ok (.bipush 44, 2) := by decide +kernel
theorem dX9_behindItem_83 : decode cX9_behindItem 83 = .ok (.if_icmp .eq 6, 3) := by decide +kernel
theorem dX9_behindItem_86 : decode cX9_behindItem 86 = .ok (.bipush (-4), 2) := by decide +kernel
theorem dX9_behindItem_88 : decode cX9_behindItem 88 = .ok (.ireturn, 1) := by decide +kernel
theorem dX9_behindItem_89 : decode cX9_behindItem 89 = .ok (.iload 7, 2) := by decide +kernel
theorem dX9_behindItem_91 : decode cX9_behindItem 91 = .ok (.iconst 1, 1) := by decide +kernel
theorem dX9_behindItem_92 : decode cX9_behindItem 92 = .ok (.iadd, 1) := by decide +kernel
theorem dX9_behindItem_93 : decode cX9_behindItem 93 = .ok (.istore 5, 2) := by decide +kernel
theorem dX9_behindItem_95 : decode cX9_behindItem 95 = .ok (.iinc 6 1, 3) := by decide +kernel
theorem dX9_behindItem_98 : decode cX9_behindItem 98 = .ok (.goto (-82), 3) := by decide +kernel
theorem dX9_behindItem_101 : decode cX9_behindItem 101 = .ok (.iload 4, 2) := by decide +kernel
theorem dX9_behindItem_103 : decode cX9_behindItem 103 = .ok (.ifCond .ne 8, 3) := by decide +kernel
theorem dX9_behindItem_106 : decode cX9_behindItem 106 = .ok (.bipush (-4), 2) := by decide +kernel
theorem dX9_behindItem_108 : decode cX9_behindItem 108 = .ok (.goto 5, 3) := by decide +kernel
theorem dX9_behindItem_111 : decode cX9_behindItem 111 = .ok (.iload 5, 2) := by decide +kernel
theorem dX9_behindItem_113 : decode cX9_behindItem 113 = .ok (.ireturn, 1) := by decide +kernel
theorem dX9_numbersDue_0 : decode cX9_numbersDue 0 = .ok (.iload_n 0, 1) := by decide +kernel
theorem dX9_numbersDue_1 : decode cX9_numbersDue 1 = .ok (.lookupswitch 55 #[(98, 53), (99, 53), (114, 53), (115, 51), (119, 53)], 51) := by decide +kernel
theorem dX9_numbersDue_52 : decode cX9_numbersDue 52 = .ok (.iconst 1, 1) := by decide +kernel
theorem dX9_numbersDue_53 : decode cX9_numbersDue 53 = .ok (.ireturn, 1) := by decide +kernel
theorem dX9_numbersDue_54 : decode cX9_numbersDue 54 = .ok (.iconst 2, 1) := by decide +kernel
theorem dX9_numbersDue_55 : decode cX9_numbersDue 55 = .ok (.ireturn, 1) := by decide +kernel
theorem dX9_numbersDue_56 : decode cX9_numbersDue 56 = .ok (.iconst 0, 1) := by decide +kernel
theorem dX9_numbersDue_57 : decode cX9_numbersDue 57 = .ok (.ireturn, 1) := by decide +kernel
theorem dX9_behindFigures_0 : decode cX9_behindFigures 0 = .ok (.iload_n 2, 1) := by decide +kernel
theorem dX9_behindFigures_1 : decode cX9_behindFigures 1 = .ok (.iload_n 1, 1) := by decide +kernel
theorem dX9_behindFigures_2 : decode cX9_behindFigures 2 = .ok (.iconst 3, 1) := by decide +kernel
theorem dX9_behindFigures_3 : decode cX9_behindFigures 3 = .ok (.iadd, 1) := by decide +kernel
theorem dX9_behindFigures_4 : decode cX9_behindFigures 4 = .ok (.invokestatic 38, 3) := by decide +kernel
theorem dX9_behindFigures_7 : decode cX9_behindFigures 7 = .ok (.istore_n 3, 1) := by decide +kernel
theorem dX9_behindFigures_8 : decode cX9_behindFigures 8 = .ok (.iload_n 1, 1) := by decide +kernel
theorem dX9_behindFigures_9 : decode cX9_behindFigures 9 = .ok (.istore 4, 2) := by decide +kernel
theorem dX9_behindFigures_11 : decode cX9_behindFigures 11 = .ok (.iload 4, 2) := by decide +kernel
theorem dX9_behindFigures_13 : decode cX9_behindFigures 13 = .ok (.iload_n 3, 1) := by decide +kernel
theorem dX9_behindFigures_14 : decode cX9_behindFigures 14 = .ok (.if_icmp .ge 26, 3) := by decide +kernel
theorem dX9_behindFigures_17 : decode cX9_behindFigures 17 = .ok (.aload_n 0, 1) := by decide +kernel
theorem dX9_behindFigures_18 : decode cX9_behindFigures 18 = .ok (.iload 4, 2) := by decide +kernel
theorem dX9_behindFigures_20 : decode cX9_behindFigures 20 = .ok (.baload, 1) := by decide +kernel
theorem dX9_behindFigures_21 : decode cX9_behindFigures 21 = .ok (.bipush 48, 2) := by decide +kernel
theorem dX9_behindFigures_23 : decode cX9_behindFigures 23 = .ok (.bipush 57, 2) := by decide +kernel
theorem dX9_behindFigures_25 : decode cX9_behindFigures 25 = .ok (.invokestatic 44, 3) := by decide +kernel
theorem dX9_behindFigures_28 : decode cX9_behindFigures 28 = .ok (.ifCond .ne 6, 3) := by decide +kernel
theorem dX9_behindFigures_31 : decode cX9_behindFigures 31 = .ok (.iload 4, 2) := by decide +kernel
theorem dX9_behindFigures_33 : decode cX9_behindFigures 33 = .ok (.ireturn, 1) := by decide +kernel
theorem dX9_behindFigures_34 : decode cX9_behindFigures 34 = .ok (.iinc 4 1, 3) := by decide +kernel
theorem dX9_behindFigures_37 : decode cX9_behindFigures 37 = .ok (.goto (-26), 3) := by decide +kernel
theorem dX9_behindFigures_40 : decode cX9_behindFigures 40 = .ok (.iload_n 1, 1) := by decide +kernel
theorem dX9_behindFigures_41 : decode cX9_behindFigures 41 = .ok (.iload_n 3, 1) := by decide +kernel
theorem dX9_behindFigures_42 : decode cX9_behindFigures 42 = .ok (.invokestatic 48, 3) := by decide +kernel
theorem dX9_behindFigures_45 : decode cX9_behindFigures 45 = .ok (.ireturn, 1) := by decide +kernel
theorem dX9_numberIn_0 : decode cX9_numberIn 0 = .ok (.iconst 0, 1) := by decide +kernel
theorem dX9_numberIn_1 : decode cX9_numberIn 1 = .ok (.istore_n 3, 1) := by decide +kernel
theorem dX9_numberIn_2 : decode cX9_numberIn 2 = .ok (.iload_n 1, 1) := by decide +kernel
theorem dX9_numberIn_3 : decode cX9_numberIn 3 = .ok (.istore 4, 2) := by decide +kernel
theorem dX9_numberIn_5 : decode cX9_numberIn 5 = .ok (.iload 4, 2) := by decide +kernel
theorem dX9_numberIn_7 : decode cX9_numberIn 7 = .ok (.iload_n 2, 1) := by decide +kernel
theorem dX9_numberIn_8 : decode cX9_numberIn 8 = .ok (.if_icmp .ge 22, 3) := by decide +kernel
theorem dX9_numberIn_11 : decode cX9_numberIn 11 = .ok (.bipush 10, 2) := by decide +kernel
theorem dX9_numberIn_13 : decode cX9_numberIn 13 = .ok (.iload_n 3, 1) := by decide +kernel
theorem dX9_numberIn_14 : decode cX9_numberIn 14 = .ok (.imul, 1) := by decide +kernel
theorem dX9_numberIn_15 : decode cX9_numberIn 15 = .ok (.aload_n 0, 1) := by decide +kernel
theorem dX9_numberIn_16 : decode cX9_numberIn 16 = .ok (.iload 4, 2) := by decide +kernel
theorem dX9_numberIn_18 : decode cX9_numberIn 18 = .ok (.baload, 1) := by decide +kernel
theorem dX9_numberIn_19 : decode cX9_numberIn 19 = .ok (.iadd, 1) := by decide +kernel
theorem dX9_numberIn_20 : decode cX9_numberIn 20 = .ok (.bipush 48, 2) := by decide +kernel
theorem dX9_numberIn_22 : decode cX9_numberIn 22 = .ok (.isub, 1) := by decide +kernel
theorem dX9_numberIn_23 : decode cX9_numberIn 23 = .ok (.istore_n 3, 1) := by decide +kernel
theorem dX9_numberIn_24 : decode cX9_numberIn 24 = .ok (.iinc 4 1, 3) := by decide +kernel
theorem dX9_numberIn_27 : decode cX9_numberIn 27 = .ok (.goto (-22), 3) := by decide +kernel
theorem dX9_numberIn_30 : decode cX9_numberIn 30 = .ok (.iload_n 3, 1) := by decide +kernel
theorem dX9_numberIn_31 : decode cX9_numberIn 31 = .ok (.ireturn, 1) := by decide +kernel
theorem dX9_tell_0 : decode cX9_tell 0 = .ok (.iload_n 2, 1) := by decide +kernel
theorem dX9_tell_1 : decode cX9_tell 1 = .ok (.lookupswitch 130 #[(98, 51), (99, 113), (114, 79), (115, 68), (119, 96)], 51) := by decide +kernel
theorem dX9_tell_52 : decode cX9_tell 52 = .ok (.aload_n 1, 1) := by decide +kernel
theorem dX9_tell_53 : decode cX9_tell 53 = .ok (.aload_n 0, 1) := by decide +kernel
theorem dX9_tell_54 : decode cX9_tell 54 = .ok (.getfield 9, 3) := by decide +kernel
theorem dX9_tell_57 : decode cX9_tell 57 = .ok (.iconst 0, 1) := by decide +kernel
theorem dX9_tell_58 : decode cX9_tell 58 = .ok (.iaload, 1) := by decide +kernel
theorem dX9_tell_59 : decode cX9_tell 59 = .ok (.aload_n 0, 1) := by decide +kernel
theorem dX9_tell_60 : decode cX9_tell 60 = .ok (.getfield 9, 3) := by decide +kernel
theorem dX9_tell_63 : decode cX9_tell 63 = .ok (.iconst 1, 1) := by decide +kernel
theorem dX9_tell_64 : decode cX9_tell 64 = .ok (.iaload, 1) := by decide +kernel
theorem dX9_tell_65 : decode cX9_tell 65 = .ok (.invokevirtual 51, 3) := by decide +kernel
theorem dX9_tell_68 : decode cX9_tell 68 = .ok (.ireturn, 1) := by decide +kernel
theorem dX9_tell_69 : decode cX9_tell 69 = .ok (.aload_n 1, 1) := by decide +kernel
theorem dX9_tell_70 : decode cX9_tell 70 = .ok (.aload_n 0, 1) := by decide +kernel
theorem dX9_tell_71 : decode cX9_tell 71 = .ok (.getfield 9, 3) := by decide +kernel
theorem dX9_tell_74 : decode cX9_tell 74 = .ok (.iconst 0, 1) := by decide +kernel
theorem dX9_tell_75 : decode cX9_tell 75 = .ok (.iaload, 1) := by decide +kernel
theorem dX9_tell_76 : decode cX9_tell 76 = .ok (.invokevirtual 55, 3) := by decide +kernel
theorem dX9_tell_79 : decode cX9_tell 79 = .ok (.ireturn, 1) := by decide +kernel
theorem dX9_tell_80 : decode cX9_tell 80 = .ok (.aload_n 1, 1) := by decide +kernel
theorem dX9_tell_81 : decode cX9_tell 81 = .ok (.aload_n 0, 1) := by decide +kernel
theorem dX9_tell_82 : decode cX9_tell 82 = .ok (.getfield 9, 3) := by decide +kernel
theorem dX9_tell_85 : decode cX9_tell 85 = .ok (.iconst 0, 1) := by decide +kernel
theorem dX9_tell_86 : decode cX9_tell 86 = .ok (.iaload, 1) := by decide +kernel
theorem dX9_tell_87 : decode cX9_tell 87 = .ok (.aload_n 0, 1) := by decide +kernel
theorem dX9_tell_88 : decode cX9_tell 88 = .ok (.getfield 9, 3) := by decide +kernel
theorem dX9_tell_91 : decode cX9_tell 91 = .ok (.iconst 1, 1) := by decide +kernel
theorem dX9_tell_92 : decode cX9_tell 92 = .ok (.iaload, 1) := by decide +kernel
theorem dX9_tell_93 : decode cX9_tell 93 = .ok (.invokevirtual 59, 3) := by decide +kernel
theorem dX9_tell_96 : decode cX9_tell 96 = .ok (.ireturn, 1) := by decide +kernel
theorem dX9_tell_97 : decode cX9_tell 97 = .ok (.aload_n 1, 1) := by decide +kernel
theorem dX9_tell_98 : decode cX9_tell 98 = .ok (.aload_n 0, 1) := by decide +kernel
theorem dX9_tell_99 : decode cX9_tell 99 = .ok (.getfield 9, 3) := by decide +kernel
theorem dX9_tell_102 : decode cX9_tell 102 = .ok (.iconst 0, 1) := by decide +kernel
theorem dX9_tell_103 : decode cX9_tell 103 = .ok (.iaload, 1) := by decide +kernel
theorem dX9_tell_104 : decode cX9_tell 104 = .ok (.aload_n 0, 1) := by decide +kernel
theorem dX9_tell_105 : decode cX9_tell 105 = .ok (.getfield 9, 3) := by decide +kernel
theorem dX9_tell_108 : decode cX9_tell 108 = .ok (.iconst 1, 1) := by decide +kernel
theorem dX9_tell_109 : decode cX9_tell 109 = .ok (.iaload, 1) := by decide +kernel
theorem dX9_tell_110 : decode cX9_tell 110 = .ok (.invokevirtual 62, 3) := by decide +kernel
theorem dX9_tell_113 : decode cX9_tell 113 = .ok (.ireturn, 1) := by decide +kernel
theorem dX9_tell_114 : decode cX9_tell 114 = .ok (.aload_n 1, 1) := by decide +kernel
theorem dX9_tell_115 : decode cX9_tell 115 = .ok (.aload_n 0, 1) := by decide +kernel
theorem dX9_tell_116 : decode cX9_tell 116 = .ok (.getfield 9, 3) := by decide +kernel
theorem dX9_tell_119 : decode cX9_tell 119 = .ok (.iconst 0, 1) := by decide +kernel
theorem dX9_tell_120 : decode cX9_tell 120 = .ok (.iaload, 1) := by decide +kernel
theorem dX9_tell_121 : decode cX9_tell 121 = .ok (.aload_n 0, 1) := by decide +kernel
theorem dX9_tell_122 : decode cX9_tell 122 = .ok (.getfield 9, 3) := by decide +kernel
theorem dX9_tell_125 : decode cX9_tell 125 = .ok (.iconst 1, 1) := by decide +kernel
theorem dX9_tell_126 : decode cX9_tell 126 = .ok (.iaload, 1) := by decide +kernel
theorem dX9_tell_127 : decode cX9_tell 127 = .ok (.invokevirtual 65, 3) := by decide +kernel
theorem dX9_tell_130 : decode cX9_tell 130 = .ok (.ireturn, 1) := by decide +kernel
theorem dX9_tell_131 : decode cX9_tell 131 = .ok (.iconst 0, 1) := by decide +kernel
theorem dX9_tell_132 : decode cX9_tell 132 = .ok (.ireturn, 1) := by decide +kernel
theorem dL_law_0 : decode cL_law 0 = .ok (.new 7, 3) := by decide +kernel
theorem dL_law_3 : decode cL_law 3 = .ok (.dup, 1) := by decide +kernel
theorem dL_law_4 : decode cL_law 4 = .ok (.invokespecial 9, 3) := by decide +kernel
theorem dL_law_7 : decode cL_law 7 = .ok (.astore_n 1, 1) := by decide +kernel
theorem dL_law_8 : decode cL_law 8 = .ok (.new 10, 3) := by decide +kernel
theorem dL_law_11 : decode cL_law 11 = .ok (.dup, 1) := by decide +kernel
theorem dL_law_12 : decode cL_law 12 = .ok (.invokespecial 12, 3) := by decide +kernel
theorem dL_law_15 : decode cL_law 15 = .ok (.astore_n 2, 1) := by decide +kernel
theorem dL_law_16 : decode cL_law 16 = .ok (.iconst 0, 1) := by decide +kernel
theorem dL_law_17 : decode cL_law 17 = .ok (.istore_n 3, 1) := by decide +kernel
theorem dL_law_18 : decode cL_law 18 = .ok (.iload_n 3, 1) := by decide +kernel
theorem dL_law_19 : decode cL_law 19 = .ok (.aload_n 0, 1) := by decide +kernel
theorem dL_law_20 : decode cL_law 20 = .ok (.arraylength, 1) := by decide +kernel
theorem dL_law_21 : decode cL_law 21 = .ok (.iconst 4, 1) := by decide +kernel
theorem dL_law_22 : decode cL_law 22 = .ok (.isub, 1) := by decide +kernel
theorem dL_law_23 : decode cL_law 23 = .ok (.if_icmp .gt 802, 3) := by decide +kernel
theorem dL_law_26 : decode cL_law 26 = .ok (.aload_n 0, 1) := by decide +kernel
theorem dL_law_27 : decode cL_law 27 = .ok (.iload_n 3, 1) := by decide +kernel
theorem dL_law_28 : decode cL_law 28 = .ok (.iaload, 1) := by decide +kernel
theorem dL_law_29 : decode cL_law 29 = .ok (.bipush 31, 2) := by decide +kernel
theorem dL_law_31 : decode cL_law 31 = .ok (.iand, 1) := by decide +kernel
theorem dL_law_32 : decode cL_law 32 = .ok (.tableswitch 787 0 22 #[108, 171, 184, 197, 210, 243, 276, 289, 332, 365, 398, 431, 454, 497, 530, 573, 596, 639, 672, 705, 738, 751, 764], 108) := by decide +kernel
theorem dL_law_140 : decode cL_law 140 = .ok (.aload_n 1, 1) := by decide +kernel
theorem dL_law_141 : decode cL_law 141 = .ok (.aload_n 0, 1) := by decide +kernel
theorem dL_law_142 : decode cL_law 142 = .ok (.iload_n 3, 1) := by decide +kernel
theorem dL_law_143 : decode cL_law 143 = .ok (.iconst 1, 1) := by decide +kernel
theorem dL_law_144 : decode cL_law 144 = .ok (.iadd, 1) := by decide +kernel
theorem dL_law_145 : decode cL_law 145 = .ok (.iaload, 1) := by decide +kernel
theorem dL_law_146 : decode cL_law 146 = .ok (.aload_n 0, 1) := by decide +kernel
theorem dL_law_147 : decode cL_law 147 = .ok (.iload_n 3, 1) := by decide +kernel
theorem dL_law_148 : decode cL_law 148 = .ok (.iconst 2, 1) := by decide +kernel
theorem dL_law_149 : decode cL_law 149 = .ok (.iadd, 1) := by decide +kernel
theorem dL_law_150 : decode cL_law 150 = .ok (.iaload, 1) := by decide +kernel
theorem dL_law_151 : decode cL_law 151 = .ok (.i2l, 1) := by decide +kernel
theorem dL_law_152 : decode cL_law 152 = .ok (.bipush 32, 2) := by decide +kernel
theorem dL_law_154 : decode cL_law 154 = .ok (.lshl, 1) := by decide +kernel
theorem dL_law_155 : decode cL_law 155 = .ok (.aload_n 0, 1) := by decide +kernel
theorem dL_law_156 : decode cL_law 156 = .ok (.iload_n 3, 1) := by decide +kernel
theorem dL_law_157 : decode cL_law 157 = .ok (.iconst 3, 1) := by decide +kernel
theorem dL_law_158 : decode cL_law 158 = .ok (.iadd, 1) := by decide +kernel
theorem dL_law_159 : decode cL_law 159 = .ok (.iaload, 1) := by decide +kernel
theorem dL_law_160 : decode cL_law 160 = .ok (.i2l, 1) := by decide +kernel
theorem dL_law_161 : decode cL_law 161 = .ok (.ldc2_w 13, 3) := by decide +kernel
theorem dL_law_164 : decode cL_law 164 = .ok (.land, 1) := by decide +kernel
theorem dL_law_165 : decode cL_law 165 = .ok (.lor, 1) := by decide +kernel
theorem dL_law_166 : decode cL_law 166 = .ok (.invokevirtual 15, 3) := by decide +kernel
theorem dL_law_169 : decode cL_law 169 = .ok (.aload_n 2, 1) := by decide +kernel
theorem dL_law_170 : decode cL_law 170 = .ok (.aload_n 0, 1) := by decide +kernel
theorem dL_law_171 : decode cL_law 171 = .ok (.iload_n 3, 1) := by decide +kernel
theorem dL_law_172 : decode cL_law 172 = .ok (.iconst 1, 1) := by decide +kernel
theorem dL_law_173 : decode cL_law 173 = .ok (.iadd, 1) := by decide +kernel
theorem dL_law_174 : decode cL_law 174 = .ok (.iaload, 1) := by decide +kernel
theorem dL_law_175 : decode cL_law 175 = .ok (.aload_n 0, 1) := by decide +kernel
theorem dL_law_176 : decode cL_law 176 = .ok (.iload_n 3, 1) := by decide +kernel
theorem dL_law_177 : decode cL_law 177 = .ok (.iconst 2, 1) := by decide +kernel
theorem dL_law_178 : decode cL_law 178 = .ok (.iadd, 1) := by decide +kernel
theorem dL_law_179 : decode cL_law 179 = .ok (.iaload, 1) := by decide +kernel
theorem dL_law_180 : decode cL_law 180 = .ok (.i2l, 1) := by decide +kernel
theorem dL_law_181 : decode cL_law 181 = .ok (.bipush 32, 2) := by decide +kernel
theorem dL_law_183 : decode cL_law 183 = .ok (.lshl, 1) := by decide +kernel
theorem dL_law_184 : decode cL_law 184 = .ok (.aload_n 0, 1) := by decide +kernel
theorem dL_law_185 : decode cL_law 185 = .ok (.iload_n 3, 1) := by decide +kernel
theorem dL_law_186 : decode cL_law 186 = .ok (.iconst 3, 1) := by decide +kernel
theorem dL_law_187 : decode cL_law 187 = .ok (.iadd, 1) := by decide +kernel
theorem dL_law_188 : decode cL_law 188 = .ok (.iaload, 1) := by decide +kernel
theorem dL_law_189 : decode cL_law 189 = .ok (.i2l, 1) := by decide +kernel
theorem dL_law_190 : decode cL_law 190 = .ok (.ldc2_w 13, 3) := by decide +kernel
theorem dL_law_193 : decode cL_law 193 = .ok (.land, 1) := by decide +kernel
theorem dL_law_194 : decode cL_law 194 = .ok (.lor, 1) := by decide +kernel
theorem dL_law_195 : decode cL_law 195 = .ok (.invokevirtual 19, 3) := by decide +kernel
theorem dL_law_198 : decode cL_law 198 = .ok (.if_icmp .eq 621, 3) := by decide +kernel
theorem dL_law_201 : decode cL_law 201 = .ok (.iconst 0, 1) := by decide +kernel
theorem dL_law_202 : decode cL_law 202 = .ok (.ireturn, 1) := by decide +kernel
theorem dL_law_203 : decode cL_law 203 = .ok (.aload_n 1, 1) := by decide +kernel
theorem dL_law_204 : decode cL_law 204 = .ok (.invokevirtual 20, 3) := by decide +kernel
theorem dL_law_207 : decode cL_law 207 = .ok (.aload_n 2, 1) := by decide +kernel
theorem dL_law_208 : decode cL_law 208 = .ok (.invokevirtual 24, 3) := by decide +kernel
theorem dL_law_211 : decode cL_law 211 = .ok (.if_icmp .eq 608, 3) := by decide +kernel
theorem dL_law_214 : decode cL_law 214 = .ok (.iconst 0, 1) := by decide +kernel
theorem dL_law_215 : decode cL_law 215 = .ok (.ireturn, 1) := by decide +kernel
theorem dL_law_216 : decode cL_law 216 = .ok (.aload_n 1, 1) := by decide +kernel
theorem dL_law_217 : decode cL_law 217 = .ok (.invokevirtual 25, 3) := by decide +kernel
theorem dL_law_220 : decode cL_law 220 = .ok (.aload_n 2, 1) := by decide +kernel
theorem dL_law_221 : decode cL_law 221 = .ok (.invokevirtual 28, 3) := by decide +kernel
theorem dL_law_224 : decode cL_law 224 = .ok (.if_icmp .eq 595, 3) := by decide +kernel
theorem dL_law_227 : decode cL_law 227 = .ok (.iconst 0, 1) := by decide +kernel
theorem dL_law_228 : decode cL_law 228 = .ok (.ireturn, 1) := by decide +kernel
theorem dL_law_229 : decode cL_law 229 = .ok (.aload_n 1, 1) := by decide +kernel
theorem dL_law_230 : decode cL_law 230 = .ok (.invokevirtual 29, 3) := by decide +kernel
theorem dL_law_233 : decode cL_law 233 = .ok (.aload_n 2, 1) := by decide +kernel
theorem dL_law_234 : decode cL_law 234 = .ok (.invokevirtual 32, 3) := by decide +kernel
theorem dL_law_237 : decode cL_law 237 = .ok (.if_icmp .eq 582, 3) := by decide +kernel
theorem dL_law_240 : decode cL_law 240 = .ok (.iconst 0, 1) := by decide +kernel
theorem dL_law_241 : decode cL_law 241 = .ok (.ireturn, 1) := by decide +kernel
theorem dL_law_242 : decode cL_law 242 = .ok (.aload_n 1, 1) := by decide +kernel
theorem dL_law_243 : decode cL_law 243 = .ok (.aload_n 0, 1) := by decide +kernel
theorem dL_law_244 : decode cL_law 244 = .ok (.iload_n 3, 1) := by decide +kernel
theorem dL_law_245 : decode cL_law 245 = .ok (.iconst 1, 1) := by decide +kernel
theorem dL_law_246 : decode cL_law 246 = .ok (.iadd, 1) := by decide +kernel
theorem dL_law_247 : decode cL_law 247 = .ok (.iaload, 1) := by decide +kernel
theorem dL_law_248 : decode cL_law 248 = .ok (.aload_n 0, 1) := by decide +kernel
theorem dL_law_249 : decode cL_law 249 = .ok (.iload_n 3, 1) := by decide +kernel
theorem dL_law_250 : decode cL_law 250 = .ok (.iconst 2, 1) := by decide +kernel
theorem dL_law_251 : decode cL_law 251 = .ok (.iadd, 1) := by decide +kernel
theorem dL_law_252 : decode cL_law 252 = .ok (.iaload, 1) := by decide +kernel
theorem dL_law_253 : decode cL_law 253 = .ok (.invokevirtual 33, 3) := by decide +kernel
theorem dL_law_256 : decode cL_law 256 = .ok (.aload_n 2, 1) := by decide +kernel
theorem dL_law_257 : decode cL_law 257 = .ok (.aload_n 0, 1) := by decide +kernel
theorem dL_law_258 : decode cL_law 258 = .ok (.iload_n 3, 1) := by decide +kernel
theorem dL_law_259 : decode cL_law 259 = .ok (.iconst 1, 1) := by decide +kernel
theorem dL_law_260 : decode cL_law 260 = .ok (.iadd, 1) := by decide +kernel
theorem dL_law_261 : decode cL_law 261 = .ok (.iaload, 1) := by decide +kernel
theorem dL_law_262 : decode cL_law 262 = .ok (.aload_n 0, 1) := by decide +kernel
theorem dL_law_263 : decode cL_law 263 = .ok (.iload_n 3, 1) := by decide +kernel
theorem dL_law_264 : decode cL_law 264 = .ok (.iconst 2, 1) := by decide +kernel
theorem dL_law_265 : decode cL_law 265 = .ok (.iadd, 1) := by decide +kernel
theorem dL_law_266 : decode cL_law 266 = .ok (.iaload, 1) := by decide +kernel
theorem dL_law_267 : decode cL_law 267 = .ok (.invokevirtual 37, 3) := by decide +kernel
theorem dL_law_270 : decode cL_law 270 = .ok (.if_icmp .eq 549, 3) := by decide +kernel
theorem dL_law_273 : decode cL_law 273 = .ok (.iconst 0, 1) := by decide +kernel
theorem dL_law_274 : decode cL_law 274 = .ok (.ireturn, 1) := by decide +kernel
theorem dL_law_275 : decode cL_law 275 = .ok (.aload_n 1, 1) := by decide +kernel
theorem dL_law_276 : decode cL_law 276 = .ok (.aload_n 0, 1) := by decide +kernel
theorem dL_law_277 : decode cL_law 277 = .ok (.iload_n 3, 1) := by decide +kernel
theorem dL_law_278 : decode cL_law 278 = .ok (.iconst 1, 1) := by decide +kernel
theorem dL_law_279 : decode cL_law 279 = .ok (.iadd, 1) := by decide +kernel
theorem dL_law_280 : decode cL_law 280 = .ok (.iaload, 1) := by decide +kernel
theorem dL_law_281 : decode cL_law 281 = .ok (.aload_n 0, 1) := by decide +kernel
theorem dL_law_282 : decode cL_law 282 = .ok (.iload_n 3, 1) := by decide +kernel
theorem dL_law_283 : decode cL_law 283 = .ok (.iconst 2, 1) := by decide +kernel
theorem dL_law_284 : decode cL_law 284 = .ok (.iadd, 1) := by decide +kernel
theorem dL_law_285 : decode cL_law 285 = .ok (.iaload, 1) := by decide +kernel
theorem dL_law_286 : decode cL_law 286 = .ok (.invokevirtual 38, 3) := by decide +kernel
theorem dL_law_289 : decode cL_law 289 = .ok (.aload_n 2, 1) := by decide +kernel
theorem dL_law_290 : decode cL_law 290 = .ok (.aload_n 0, 1) := by decide +kernel
theorem dL_law_291 : decode cL_law 291 = .ok (.iload_n 3, 1) := by decide +kernel
theorem dL_law_292 : decode cL_law 292 = .ok (.iconst 1, 1) := by decide +kernel
theorem dL_law_293 : decode cL_law 293 = .ok (.iadd, 1) := by decide +kernel
theorem dL_law_294 : decode cL_law 294 = .ok (.iaload, 1) := by decide +kernel
theorem dL_law_295 : decode cL_law 295 = .ok (.aload_n 0, 1) := by decide +kernel
theorem dL_law_296 : decode cL_law 296 = .ok (.iload_n 3, 1) := by decide +kernel
theorem dL_law_297 : decode cL_law 297 = .ok (.iconst 2, 1) := by decide +kernel
theorem dL_law_298 : decode cL_law 298 = .ok (.iadd, 1) := by decide +kernel
theorem dL_law_299 : decode cL_law 299 = .ok (.iaload, 1) := by decide +kernel
theorem dL_law_300 : decode cL_law 300 = .ok (.invokevirtual 41, 3) := by decide +kernel
theorem dL_law_303 : decode cL_law 303 = .ok (.if_icmp .eq 516, 3) := by decide +kernel
theorem dL_law_306 : decode cL_law 306 = .ok (.iconst 0, 1) := by decide +kernel
theorem dL_law_307 : decode cL_law 307 = .ok (.ireturn, 1) := by decide +kernel
theorem dL_law_308 : decode cL_law 308 = .ok (.aload_n 1, 1) := by decide +kernel
theorem dL_law_309 : decode cL_law 309 = .ok (.invokevirtual 42, 3) := by decide +kernel
theorem dL_law_312 : decode cL_law 312 = .ok (.aload_n 2, 1) := by decide +kernel
theorem dL_law_313 : decode cL_law 313 = .ok (.invokevirtual 45, 3) := by decide +kernel
theorem dL_law_316 : decode cL_law 316 = .ok (.if_icmp .eq 503, 3) := by decide +kernel
theorem dL_law_319 : decode cL_law 319 = .ok (.iconst 0, 1) := by decide +kernel
theorem dL_law_320 : decode cL_law 320 = .ok (.ireturn, 1) := by decide +kernel
theorem dL_law_321 : decode cL_law 321 = .ok (.aload_n 1, 1) := by decide +kernel
theorem dL_law_322 : decode cL_law 322 = .ok (.aload_n 0, 1) := by decide +kernel
theorem dL_law_323 : decode cL_law 323 = .ok (.iload_n 3, 1) := by decide +kernel
theorem dL_law_324 : decode cL_law 324 = .ok (.iconst 1, 1) := by decide +kernel
theorem dL_law_325 : decode cL_law 325 = .ok (.iadd, 1) := by decide +kernel
theorem dL_law_326 : decode cL_law 326 = .ok (.iaload, 1) := by decide +kernel
theorem dL_law_327 : decode cL_law 327 = .ok (.aload_n 0, 1) := by decide +kernel
theorem dL_law_328 : decode cL_law 328 = .ok (.iload_n 3, 1) := by decide +kernel
theorem dL_law_329 : decode cL_law 329 = .ok (.iconst 2, 1) := by decide +kernel
theorem dL_law_330 : decode cL_law 330 = .ok (.iadd, 1) := by decide +kernel
theorem dL_law_331 : decode cL_law 331 = .ok (.iaload, 1) := by decide +kernel
theorem dL_law_332 : decode cL_law 332 = .ok (.aload_n 0, 1) := by decide +kernel
theorem dL_law_333 : decode cL_law 333 = .ok (.iload_n 3, 1) := by decide +kernel
theorem dL_law_334 : decode cL_law 334 = .ok (.iconst 3, 1) := by decide +kernel
theorem dL_law_335 : decode cL_law 335 = .ok (.iadd, 1) := by decide +kernel
theorem dL_law_336 : decode cL_law 336 = .ok (.iaload, 1) := by decide +kernel
theorem dL_law_337 : decode cL_law 337 = .ok (.invokevirtual 46, 3) := by decide +kernel
theorem dL_law_340 : decode cL_law 340 = .ok (.aload_n 2, 1) := by decide +kernel
theorem dL_law_341 : decode cL_law 341 = .ok (.aload_n 0, 1) := by decide +kernel
theorem dL_law_342 : decode cL_law 342 = .ok (.iload_n 3, 1) := by decide +kernel
theorem dL_law_343 : decode cL_law 343 = .ok (.iconst 1, 1) := by decide +kernel
theorem dL_law_344 : decode cL_law 344 = .ok (.iadd, 1) := by decide +kernel
theorem dL_law_345 : decode cL_law 345 = .ok (.iaload, 1) := by decide +kernel
theorem dL_law_346 : decode cL_law 346 = .ok (.aload_n 0, 1) := by decide +kernel
theorem dL_law_347 : decode cL_law 347 = .ok (.iload_n 3, 1) := by decide +kernel
theorem dL_law_348 : decode cL_law 348 = .ok (.iconst 2, 1) := by decide +kernel
theorem dL_law_349 : decode cL_law 349 = .ok (.iadd, 1) := by decide +kernel
theorem dL_law_350 : decode cL_law 350 = .ok (.iaload, 1) := by decide +kernel
theorem dL_law_351 : decode cL_law 351 = .ok (.aload_n 0, 1) := by decide +kernel
theorem dL_law_352 : decode cL_law 352 = .ok (.iload_n 3, 1) := by decide +kernel
theorem dL_law_353 : decode cL_law 353 = .ok (.iconst 3, 1) := by decide +kernel
theorem dL_law_354 : decode cL_law 354 = .ok (.iadd, 1) := by decide +kernel
theorem dL_law_355 : decode cL_law 355 = .ok (.iaload, 1) := by decide +kernel
theorem dL_law_356 : decode cL_law 356 = .ok (.invokevirtual 50, 3) := by decide +kernel
theorem dL_law_359 : decode cL_law 359 = .ok (.if_icmp .eq 460, 3) := by decide +kernel
theorem dL_law_362 : decode cL_law 362 = .ok (.iconst 0, 1) := by decide +kernel
theorem dL_law_363 : decode cL_law 363 = .ok (.ireturn, 1) := by decide +kernel
theorem dL_law_364 : decode cL_law 364 = .ok (.aload_n 1, 1) := by decide +kernel
theorem dL_law_365 : decode cL_law 365 = .ok (.aload_n 0, 1) := by decide +kernel
theorem dL_law_366 : decode cL_law 366 = .ok (.iload_n 3, 1) := by decide +kernel
theorem dL_law_367 : decode cL_law 367 = .ok (.iconst 1, 1) := by decide +kernel
theorem dL_law_368 : decode cL_law 368 = .ok (.iadd, 1) := by decide +kernel
theorem dL_law_369 : decode cL_law 369 = .ok (.iaload, 1) := by decide +kernel
theorem dL_law_370 : decode cL_law 370 = .ok (.aload_n 0, 1) := by decide +kernel
theorem dL_law_371 : decode cL_law 371 = .ok (.iload_n 3, 1) := by decide +kernel
theorem dL_law_372 : decode cL_law 372 = .ok (.iconst 2, 1) := by decide +kernel
theorem dL_law_373 : decode cL_law 373 = .ok (.iadd, 1) := by decide +kernel
theorem dL_law_374 : decode cL_law 374 = .ok (.iaload, 1) := by decide +kernel
theorem dL_law_375 : decode cL_law 375 = .ok (.invokevirtual 51, 3) := by decide +kernel
theorem dL_law_378 : decode cL_law 378 = .ok (.aload_n 2, 1) := by decide +kernel
theorem dL_law_379 : decode cL_law 379 = .ok (.aload_n 0, 1) := by decide +kernel
theorem dL_law_380 : decode cL_law 380 = .ok (.iload_n 3, 1) := by decide +kernel
theorem dL_law_381 : decode cL_law 381 = .ok (.iconst 1, 1) := by decide +kernel
theorem dL_law_382 : decode cL_law 382 = .ok (.iadd, 1) := by decide +kernel
theorem dL_law_383 : decode cL_law 383 = .ok (.iaload, 1) := by decide +kernel
theorem dL_law_384 : decode cL_law 384 = .ok (.aload_n 0, 1) := by decide +kernel
theorem dL_law_385 : decode cL_law 385 = .ok (.iload_n 3, 1) := by decide +kernel
theorem dL_law_386 : decode cL_law 386 = .ok (.iconst 2, 1) := by decide +kernel
theorem dL_law_387 : decode cL_law 387 = .ok (.iadd, 1) := by decide +kernel
theorem dL_law_388 : decode cL_law 388 = .ok (.iaload, 1) := by decide +kernel
theorem dL_law_389 : decode cL_law 389 = .ok (.invokevirtual 54, 3) := by decide +kernel
theorem dL_law_392 : decode cL_law 392 = .ok (.if_icmp .eq 427, 3) := by decide +kernel
theorem dL_law_395 : decode cL_law 395 = .ok (.iconst 0, 1) := by decide +kernel
theorem dL_law_396 : decode cL_law 396 = .ok (.ireturn, 1) := by decide +kernel
theorem dL_law_397 : decode cL_law 397 = .ok (.aload_n 1, 1) := by decide +kernel
theorem dL_law_398 : decode cL_law 398 = .ok (.aload_n 0, 1) := by decide +kernel
theorem dL_law_399 : decode cL_law 399 = .ok (.iload_n 3, 1) := by decide +kernel
theorem dL_law_400 : decode cL_law 400 = .ok (.iconst 1, 1) := by decide +kernel
theorem dL_law_401 : decode cL_law 401 = .ok (.iadd, 1) := by decide +kernel
theorem dL_law_402 : decode cL_law 402 = .ok (.iaload, 1) := by decide +kernel
theorem dL_law_403 : decode cL_law 403 = .ok (.aload_n 0, 1) := by decide +kernel
theorem dL_law_404 : decode cL_law 404 = .ok (.iload_n 3, 1) := by decide +kernel
theorem dL_law_405 : decode cL_law 405 = .ok (.iconst 2, 1) := by decide +kernel
theorem dL_law_406 : decode cL_law 406 = .ok (.iadd, 1) := by decide +kernel
theorem dL_law_407 : decode cL_law 407 = .ok (.iaload, 1) := by decide +kernel
theorem dL_law_408 : decode cL_law 408 = .ok (.invokevirtual 55, 3) := by decide +kernel
theorem dL_law_411 : decode cL_law 411 = .ok (.aload_n 2, 1) := by decide +kernel
theorem dL_law_412 : decode cL_law 412 = .ok (.aload_n 0, 1) := by decide +kernel
theorem dL_law_413 : decode cL_law 413 = .ok (.iload_n 3, 1) := by decide +kernel
theorem dL_law_414 : decode cL_law 414 = .ok (.iconst 1, 1) := by decide +kernel
theorem dL_law_415 : decode cL_law 415 = .ok (.iadd, 1) := by decide +kernel
theorem dL_law_416 : decode cL_law 416 = .ok (.iaload, 1) := by decide +kernel
theorem dL_law_417 : decode cL_law 417 = .ok (.aload_n 0, 1) := by decide +kernel
theorem dL_law_418 : decode cL_law 418 = .ok (.iload_n 3, 1) := by decide +kernel
theorem dL_law_419 : decode cL_law 419 = .ok (.iconst 2, 1) := by decide +kernel
theorem dL_law_420 : decode cL_law 420 = .ok (.iadd, 1) := by decide +kernel
theorem dL_law_421 : decode cL_law 421 = .ok (.iaload, 1) := by decide +kernel
theorem dL_law_422 : decode cL_law 422 = .ok (.invokevirtual 58, 3) := by decide +kernel
theorem dL_law_425 : decode cL_law 425 = .ok (.if_icmp .eq 394, 3) := by decide +kernel
theorem dL_law_428 : decode cL_law 428 = .ok (.iconst 0, 1) := by decide +kernel
theorem dL_law_429 : decode cL_law 429 = .ok (.ireturn, 1) := by decide +kernel
theorem dL_law_430 : decode cL_law 430 = .ok (.aload_n 1, 1) := by decide +kernel
theorem dL_law_431 : decode cL_law 431 = .ok (.aload_n 0, 1) := by decide +kernel
theorem dL_law_432 : decode cL_law 432 = .ok (.iload_n 3, 1) := by decide +kernel
theorem dL_law_433 : decode cL_law 433 = .ok (.iconst 1, 1) := by decide +kernel
theorem dL_law_434 : decode cL_law 434 = .ok (.iadd, 1) := by decide +kernel
theorem dL_law_435 : decode cL_law 435 = .ok (.iaload, 1) := by decide +kernel
theorem dL_law_436 : decode cL_law 436 = .ok (.aload_n 0, 1) := by decide +kernel
theorem dL_law_437 : decode cL_law 437 = .ok (.iload_n 3, 1) := by decide +kernel
theorem dL_law_438 : decode cL_law 438 = .ok (.iconst 2, 1) := by decide +kernel
theorem dL_law_439 : decode cL_law 439 = .ok (.iadd, 1) := by decide +kernel
theorem dL_law_440 : decode cL_law 440 = .ok (.iaload, 1) := by decide +kernel
theorem dL_law_441 : decode cL_law 441 = .ok (.invokevirtual 59, 3) := by decide +kernel
theorem dL_law_444 : decode cL_law 444 = .ok (.aload_n 2, 1) := by decide +kernel
theorem dL_law_445 : decode cL_law 445 = .ok (.aload_n 0, 1) := by decide +kernel
theorem dL_law_446 : decode cL_law 446 = .ok (.iload_n 3, 1) := by decide +kernel
theorem dL_law_447 : decode cL_law 447 = .ok (.iconst 1, 1) := by decide +kernel
theorem dL_law_448 : decode cL_law 448 = .ok (.iadd, 1) := by decide +kernel
theorem dL_law_449 : decode cL_law 449 = .ok (.iaload, 1) := by decide +kernel
theorem dL_law_450 : decode cL_law 450 = .ok (.aload_n 0, 1) := by decide +kernel
theorem dL_law_451 : decode cL_law 451 = .ok (.iload_n 3, 1) := by decide +kernel
theorem dL_law_452 : decode cL_law 452 = .ok (.iconst 2, 1) := by decide +kernel
theorem dL_law_453 : decode cL_law 453 = .ok (.iadd, 1) := by decide +kernel
theorem dL_law_454 : decode cL_law 454 = .ok (.iaload, 1) := by decide +kernel
theorem dL_law_455 : decode cL_law 455 = .ok (.invokevirtual 62, 3) := by decide +kernel
theorem dL_law_458 : decode cL_law 458 = .ok (.if_icmp .eq 361, 3) := by decide +kernel
theorem dL_law_461 : decode cL_law 461 = .ok (.iconst 0, 1) := by decide +kernel
theorem dL_law_462 : decode cL_law 462 = .ok (.ireturn, 1) := by decide +kernel
theorem dL_law_463 : decode cL_law 463 = .ok (.aload_n 1, 1) := by decide +kernel
theorem dL_law_464 : decode cL_law 464 = .ok (.aload_n 0, 1) := by decide +kernel
theorem dL_law_465 : decode cL_law 465 = .ok (.iload_n 3, 1) := by decide +kernel
theorem dL_law_466 : decode cL_law 466 = .ok (.iconst 1, 1) := by decide +kernel
theorem dL_law_467 : decode cL_law 467 = .ok (.iadd, 1) := by decide +kernel
theorem dL_law_468 : decode cL_law 468 = .ok (.iaload, 1) := by decide +kernel
theorem dL_law_469 : decode cL_law 469 = .ok (.invokevirtual 63, 3) := by decide +kernel
theorem dL_law_472 : decode cL_law 472 = .ok (.aload_n 2, 1) := by decide +kernel
theorem dL_law_473 : decode cL_law 473 = .ok (.aload_n 0, 1) := by decide +kernel
theorem dL_law_474 : decode cL_law 474 = .ok (.iload_n 3, 1) := by decide +kernel
theorem dL_law_475 : decode cL_law 475 = .ok (.iconst 1, 1) := by decide +kernel
theorem dL_law_476 : decode cL_law 476 = .ok (.iadd, 1) := by decide +kernel
theorem dL_law_477 : decode cL_law 477 = .ok (.iaload, 1) := by decide +kernel
theorem dL_law_478 : decode cL_law 478 = .ok (.invokevirtual 67, 3) := by decide +kernel
theorem dL_law_481 : decode cL_law 481 = .ok (.if_icmp .eq 338, 3) := by decide +kernel
theorem dL_law_484 : decode cL_law 484 = .ok (.iconst 0, 1) := by decide +kernel
theorem dL_law_485 : decode cL_law 485 = .ok (.ireturn, 1) := by decide +kernel
theorem dL_law_486 : decode cL_law 486 = .ok (.aload_n 1, 1) := by decide +kernel
theorem dL_law_487 : decode cL_law 487 = .ok (.aload_n 0, 1) := by decide +kernel
theorem dL_law_488 : decode cL_law 488 = .ok (.iload_n 3, 1) := by decide +kernel
theorem dL_law_489 : decode cL_law 489 = .ok (.iconst 1, 1) := by decide +kernel
theorem dL_law_490 : decode cL_law 490 = .ok (.iadd, 1) := by decide +kernel
theorem dL_law_491 : decode cL_law 491 = .ok (.iaload, 1) := by decide +kernel
theorem dL_law_492 : decode cL_law 492 = .ok (.aload_n 0, 1) := by decide +kernel
theorem dL_law_493 : decode cL_law 493 = .ok (.iload_n 3, 1) := by decide +kernel
theorem dL_law_494 : decode cL_law 494 = .ok (.iconst 2, 1) := by decide +kernel
theorem dL_law_495 : decode cL_law 495 = .ok (.iadd, 1) := by decide +kernel
theorem dL_law_496 : decode cL_law 496 = .ok (.iaload, 1) := by decide +kernel
theorem dL_law_497 : decode cL_law 497 = .ok (.aload_n 0, 1) := by decide +kernel
theorem dL_law_498 : decode cL_law 498 = .ok (.iload_n 3, 1) := by decide +kernel
theorem dL_law_499 : decode cL_law 499 = .ok (.iconst 3, 1) := by decide +kernel
theorem dL_law_500 : decode cL_law 500 = .ok (.iadd, 1) := by decide +kernel
theorem dL_law_501 : decode cL_law 501 = .ok (.iaload, 1) := by decide +kernel
theorem dL_law_502 : decode cL_law 502 = .ok (.invokevirtual 68, 3) := by decide +kernel
theorem dL_law_505 : decode cL_law 505 = .ok (.aload_n 2, 1) := by decide +kernel
theorem dL_law_506 : decode cL_law 506 = .ok (.aload_n 0, 1) := by decide +kernel
theorem dL_law_507 : decode cL_law 507 = .ok (.iload_n 3, 1) := by decide +kernel
theorem dL_law_508 : decode cL_law 508 = .ok (.iconst 1, 1) := by decide +kernel
theorem dL_law_509 : decode cL_law 509 = .ok (.iadd, 1) := by decide +kernel
theorem dL_law_510 : decode cL_law 510 = .ok (.iaload, 1) := by decide +kernel
theorem dL_law_511 : decode cL_law 511 = .ok (.aload_n 0, 1) := by decide +kernel
theorem dL_law_512 : decode cL_law 512 = .ok (.iload_n 3, 1) := by decide +kernel
theorem dL_law_513 : decode cL_law 513 = .ok (.iconst 2, 1) := by decide +kernel
theorem dL_law_514 : decode cL_law 514 = .ok (.iadd, 1) := by decide +kernel
theorem dL_law_515 : decode cL_law 515 = .ok (.iaload, 1) := by decide +kernel
theorem dL_law_516 : decode cL_law 516 = .ok (.aload_n 0, 1) := by decide +kernel
theorem dL_law_517 : decode cL_law 517 = .ok (.iload_n 3, 1) := by decide +kernel
theorem dL_law_518 : decode cL_law 518 = .ok (.iconst 3, 1) := by decide +kernel
theorem dL_law_519 : decode cL_law 519 = .ok (.iadd, 1) := by decide +kernel
theorem dL_law_520 : decode cL_law 520 = .ok (.iaload, 1) := by decide +kernel
theorem dL_law_521 : decode cL_law 521 = .ok (.invokevirtual 71, 3) := by decide +kernel
theorem dL_law_524 : decode cL_law 524 = .ok (.if_icmp .eq 295, 3) := by decide +kernel
theorem dL_law_527 : decode cL_law 527 = .ok (.iconst 0, 1) := by decide +kernel
theorem dL_law_528 : decode cL_law 528 = .ok (.ireturn, 1) := by decide +kernel
theorem dL_law_529 : decode cL_law 529 = .ok (.aload_n 1, 1) := by decide +kernel
theorem dL_law_530 : decode cL_law 530 = .ok (.aload_n 0, 1) := by decide +kernel
theorem dL_law_531 : decode cL_law 531 = .ok (.iload_n 3, 1) := by decide +kernel
theorem dL_law_532 : decode cL_law 532 = .ok (.iconst 1, 1) := by decide +kernel
theorem dL_law_533 : decode cL_law 533 = .ok (.iadd, 1) := by decide +kernel
theorem dL_law_534 : decode cL_law 534 = .ok (.iaload, 1) := by decide +kernel
theorem dL_law_535 : decode cL_law 535 = .ok (.aload_n 0, 1) := by decide +kernel
theorem dL_law_536 : decode cL_law 536 = .ok (.iload_n 3, 1) := by decide +kernel
theorem dL_law_537 : decode cL_law 537 = .ok (.iconst 2, 1) := by decide +kernel
theorem dL_law_538 : decode cL_law 538 = .ok (.iadd, 1) := by decide +kernel
theorem dL_law_539 : decode cL_law 539 = .ok (.iaload, 1) := by decide +kernel
theorem dL_law_540 : decode cL_law 540 = .ok (.invokevirtual 72, 3) := by decide +kernel
theorem dL_law_543 : decode cL_law 543 = .ok (.aload_n 2, 1) := by decide +kernel
theorem dL_law_544 : decode cL_law 544 = .ok (.aload_n 0, 1) := by decide +kernel
theorem dL_law_545 : decode cL_law 545 = .ok (.iload_n 3, 1) := by decide +kernel
theorem dL_law_546 : decode cL_law 546 = .ok (.iconst 1, 1) := by decide +kernel
theorem dL_law_547 : decode cL_law 547 = .ok (.iadd, 1) := by decide +kernel
theorem dL_law_548 : decode cL_law 548 = .ok (.iaload, 1) := by decide +kernel
theorem dL_law_549 : decode cL_law 549 = .ok (.aload_n 0, 1) := by decide +kernel
theorem dL_law_550 : decode cL_law 550 = .ok (.iload_n 3, 1) := by decide +kernel
theorem dL_law_551 : decode cL_law 551 = .ok (.iconst 2, 1) := by decide +kernel
theorem dL_law_552 : decode cL_law 552 = .ok (.iadd, 1) := by decide +kernel
theorem dL_law_553 : decode cL_law 553 = .ok (.iaload, 1) := by decide +kernel
theorem dL_law_554 : decode cL_law 554 = .ok (.invokevirtual 75, 3) := by decide +kernel
theorem dL_law_557 : decode cL_law 557 = .ok (.if_icmp .eq 262, 3) := by decide +kernel
theorem dL_law_560 : decode cL_law 560 = .ok (.iconst 0, 1) := by decide +kernel
theorem dL_law_561 : decode cL_law 561 = .ok (.ireturn, 1) := by decide +kernel
theorem dL_law_562 : decode cL_law 562 = .ok (.aload_n 1, 1) := by decide +kernel
theorem dL_law_563 : decode cL_law 563 = .ok (.aload_n 0, 1) := by decide +kernel
theorem dL_law_564 : decode cL_law 564 = .ok (.iload_n 3, 1) := by decide +kernel
theorem dL_law_565 : decode cL_law 565 = .ok (.iconst 1, 1) := by decide +kernel
theorem dL_law_566 : decode cL_law 566 = .ok (.iadd, 1) := by decide +kernel
theorem dL_law_567 : decode cL_law 567 = .ok (.iaload, 1) := by decide +kernel
theorem dL_law_568 : decode cL_law 568 = .ok (.aload_n 0, 1) := by decide +kernel
theorem dL_law_569 : decode cL_law 569 = .ok (.iload_n 3, 1) := by decide +kernel
theorem dL_law_570 : decode cL_law 570 = .ok (.iconst 2, 1) := by decide +kernel
theorem dL_law_571 : decode cL_law 571 = .ok (.iadd, 1) := by decide +kernel
theorem dL_law_572 : decode cL_law 572 = .ok (.iaload, 1) := by decide +kernel
theorem dL_law_573 : decode cL_law 573 = .ok (.aload_n 0, 1) := by decide +kernel
theorem dL_law_574 : decode cL_law 574 = .ok (.iload_n 3, 1) := by decide +kernel
theorem dL_law_575 : decode cL_law 575 = .ok (.iconst 3, 1) := by decide +kernel
theorem dL_law_576 : decode cL_law 576 = .ok (.iadd, 1) := by decide +kernel
theorem dL_law_577 : decode cL_law 577 = .ok (.iaload, 1) := by decide +kernel
theorem dL_law_578 : decode cL_law 578 = .ok (.invokevirtual 76, 3) := by decide +kernel
theorem dL_law_581 : decode cL_law 581 = .ok (.aload_n 2, 1) := by decide +kernel
theorem dL_law_582 : decode cL_law 582 = .ok (.aload_n 0, 1) := by decide +kernel
theorem dL_law_583 : decode cL_law 583 = .ok (.iload_n 3, 1) := by decide +kernel
theorem dL_law_584 : decode cL_law 584 = .ok (.iconst 1, 1) := by decide +kernel
theorem dL_law_585 : decode cL_law 585 = .ok (.iadd, 1) := by decide +kernel
theorem dL_law_586 : decode cL_law 586 = .ok (.iaload, 1) := by decide +kernel
theorem dL_law_587 : decode cL_law 587 = .ok (.aload_n 0, 1) := by decide +kernel
theorem dL_law_588 : decode cL_law 588 = .ok (.iload_n 3, 1) := by decide +kernel
theorem dL_law_589 : decode cL_law 589 = .ok (.iconst 2, 1) := by decide +kernel
theorem dL_law_590 : decode cL_law 590 = .ok (.iadd, 1) := by decide +kernel
theorem dL_law_591 : decode cL_law 591 = .ok (.iaload, 1) := by decide +kernel
theorem dL_law_592 : decode cL_law 592 = .ok (.aload_n 0, 1) := by decide +kernel
theorem dL_law_593 : decode cL_law 593 = .ok (.iload_n 3, 1) := by decide +kernel
theorem dL_law_594 : decode cL_law 594 = .ok (.iconst 3, 1) := by decide +kernel
theorem dL_law_595 : decode cL_law 595 = .ok (.iadd, 1) := by decide +kernel
theorem dL_law_596 : decode cL_law 596 = .ok (.iaload, 1) := by decide +kernel
theorem dL_law_597 : decode cL_law 597 = .ok (.invokevirtual 79, 3) := by decide +kernel
theorem dL_law_600 : decode cL_law 600 = .ok (.if_icmp .eq 219, 3) := by decide +kernel
theorem dL_law_603 : decode cL_law 603 = .ok (.iconst 0, 1) := by decide +kernel
theorem dL_law_604 : decode cL_law 604 = .ok (.ireturn, 1) := by decide +kernel
theorem dL_law_605 : decode cL_law 605 = .ok (.aload_n 1, 1) := by decide +kernel
theorem dL_law_606 : decode cL_law 606 = .ok (.aload_n 0, 1) := by decide +kernel
theorem dL_law_607 : decode cL_law 607 = .ok (.iload_n 3, 1) := by decide +kernel
theorem dL_law_608 : decode cL_law 608 = .ok (.iconst 1, 1) := by decide +kernel
theorem dL_law_609 : decode cL_law 609 = .ok (.iadd, 1) := by decide +kernel
theorem dL_law_610 : decode cL_law 610 = .ok (.iaload, 1) := by decide +kernel
theorem dL_law_611 : decode cL_law 611 = .ok (.invokevirtual 80, 3) := by decide +kernel
theorem dL_law_614 : decode cL_law 614 = .ok (.aload_n 2, 1) := by decide +kernel
theorem dL_law_615 : decode cL_law 615 = .ok (.aload_n 0, 1) := by decide +kernel
theorem dL_law_616 : decode cL_law 616 = .ok (.iload_n 3, 1) := by decide +kernel
theorem dL_law_617 : decode cL_law 617 = .ok (.iconst 1, 1) := by decide +kernel
theorem dL_law_618 : decode cL_law 618 = .ok (.iadd, 1) := by decide +kernel
theorem dL_law_619 : decode cL_law 619 = .ok (.iaload, 1) := by decide +kernel
theorem dL_law_620 : decode cL_law 620 = .ok (.invokevirtual 83, 3) := by decide +kernel
theorem dL_law_623 : decode cL_law 623 = .ok (.if_icmp .eq 196, 3) := by decide +kernel
theorem dL_law_626 : decode cL_law 626 = .ok (.iconst 0, 1) := by decide +kernel
theorem dL_law_627 : decode cL_law 627 = .ok (.ireturn, 1) := by decide +kernel
theorem dL_law_628 : decode cL_law 628 = .ok (.aload_n 1, 1) := by decide +kernel
theorem dL_law_629 : decode cL_law 629 = .ok (.aload_n 0, 1) := by decide +kernel
theorem dL_law_630 : decode cL_law 630 = .ok (.iload_n 3, 1) := by decide +kernel
theorem dL_law_631 : decode cL_law 631 = .ok (.iconst 1, 1) := by decide +kernel
theorem dL_law_632 : decode cL_law 632 = .ok (.iadd, 1) := by decide +kernel
theorem dL_law_633 : decode cL_law 633 = .ok (.iaload, 1) := by decide +kernel
theorem dL_law_634 : decode cL_law 634 = .ok (.aload_n 0, 1) := by decide +kernel
theorem dL_law_635 : decode cL_law 635 = .ok (.iload_n 3, 1) := by decide +kernel
theorem dL_law_636 : decode cL_law 636 = .ok (.iconst 2, 1) := by decide +kernel
theorem dL_law_637 : decode cL_law 637 = .ok (.iadd, 1) := by decide +kernel
theorem dL_law_638 : decode cL_law 638 = .ok (.iaload, 1) := by decide +kernel
theorem dL_law_639 : decode cL_law 639 = .ok (.aload_n 0, 1) := by decide +kernel
theorem dL_law_640 : decode cL_law 640 = .ok (.iload_n 3, 1) := by decide +kernel
theorem dL_law_641 : decode cL_law 641 = .ok (.iconst 3, 1) := by decide +kernel
theorem dL_law_642 : decode cL_law 642 = .ok (.iadd, 1) := by decide +kernel
theorem dL_law_643 : decode cL_law 643 = .ok (.iaload, 1) := by decide +kernel
theorem dL_law_644 : decode cL_law 644 = .ok (.invokevirtual 84, 3) := by decide +kernel
theorem dL_law_647 : decode cL_law 647 = .ok (.aload_n 2, 1) := by decide +kernel
theorem dL_law_648 : decode cL_law 648 = .ok (.aload_n 0, 1) := by decide +kernel
theorem dL_law_649 : decode cL_law 649 = .ok (.iload_n 3, 1) := by decide +kernel
theorem dL_law_650 : decode cL_law 650 = .ok (.iconst 1, 1) := by decide +kernel
theorem dL_law_651 : decode cL_law 651 = .ok (.iadd, 1) := by decide +kernel
theorem dL_law_652 : decode cL_law 652 = .ok (.iaload, 1) := by decide +kernel
theorem dL_law_653 : decode cL_law 653 = .ok (.aload_n 0, 1) := by decide +kernel
theorem dL_law_654 : decode cL_law 654 = .ok (.iload_n 3, 1) := by decide +kernel
theorem dL_law_655 : decode cL_law 655 = .ok (.iconst 2, 1) := by decide +kernel
theorem dL_law_656 : decode cL_law 656 = .ok (.iadd, 1) := by decide +kernel
theorem dL_law_657 : decode cL_law 657 = .ok (.iaload, 1) := by decide +kernel
theorem dL_law_658 : decode cL_law 658 = .ok (.aload_n 0, 1) := by decide +kernel
theorem dL_law_659 : decode cL_law 659 = .ok (.iload_n 3, 1) := by decide +kernel
theorem dL_law_660 : decode cL_law 660 = .ok (.iconst 3, 1) := by decide +kernel
theorem dL_law_661 : decode cL_law 661 = .ok (.iadd, 1) := by decide +kernel
theorem dL_law_662 : decode cL_law 662 = .ok (.iaload, 1) := by decide +kernel
theorem dL_law_663 : decode cL_law 663 = .ok (.invokevirtual 87, 3) := by decide +kernel
theorem dL_law_666 : decode cL_law 666 = .ok (.if_icmp .eq 153, 3) := by decide +kernel
theorem dL_law_669 : decode cL_law 669 = .ok (.iconst 0, 1) := by decide +kernel
theorem dL_law_670 : decode cL_law 670 = .ok (.ireturn, 1) := by decide +kernel
theorem dL_law_671 : decode cL_law 671 = .ok (.aload_n 1, 1) := by decide +kernel
theorem dL_law_672 : decode cL_law 672 = .ok (.aload_n 0, 1) := by decide +kernel
theorem dL_law_673 : decode cL_law 673 = .ok (.iload_n 3, 1) := by decide +kernel
theorem dL_law_674 : decode cL_law 674 = .ok (.iconst 1, 1) := by decide +kernel
theorem dL_law_675 : decode cL_law 675 = .ok (.iadd, 1) := by decide +kernel
theorem dL_law_676 : decode cL_law 676 = .ok (.iaload, 1) := by decide +kernel
theorem dL_law_677 : decode cL_law 677 = .ok (.aload_n 0, 1) := by decide +kernel
theorem dL_law_678 : decode cL_law 678 = .ok (.iload_n 3, 1) := by decide +kernel
theorem dL_law_679 : decode cL_law 679 = .ok (.iconst 2, 1) := by decide +kernel
theorem dL_law_680 : decode cL_law 680 = .ok (.iadd, 1) := by decide +kernel
theorem dL_law_681 : decode cL_law 681 = .ok (.iaload, 1) := by decide +kernel
theorem dL_law_682 : decode cL_law 682 = .ok (.invokevirtual 88, 3) := by decide +kernel
theorem dL_law_685 : decode cL_law 685 = .ok (.aload_n 2, 1) := by decide +kernel
theorem dL_law_686 : decode cL_law 686 = .ok (.aload_n 0, 1) := by decide +kernel
theorem dL_law_687 : decode cL_law 687 = .ok (.iload_n 3, 1) := by decide +kernel
theorem dL_law_688 : decode cL_law 688 = .ok (.iconst 1, 1) := by decide +kernel
theorem dL_law_689 : decode cL_law 689 = .ok (.iadd, 1) := by decide +kernel
theorem dL_law_690 : decode cL_law 690 = .ok (.iaload, 1) := by decide +kernel
theorem dL_law_691 : decode cL_law 691 = .ok (.aload_n 0, 1) := by decide +kernel
theorem dL_law_692 : decode cL_law 692 = .ok (.iload_n 3, 1) := by decide +kernel
theorem dL_law_693 : decode cL_law 693 = .ok (.iconst 2, 1) := by decide +kernel
theorem dL_law_694 : decode cL_law 694 = .ok (.iadd, 1) := by decide +kernel
theorem dL_law_695 : decode cL_law 695 = .ok (.iaload, 1) := by decide +kernel
theorem dL_law_696 : decode cL_law 696 = .ok (.invokevirtual 91, 3) := by decide +kernel
theorem dL_law_699 : decode cL_law 699 = .ok (.if_icmp .eq 120, 3) := by decide +kernel
theorem dL_law_702 : decode cL_law 702 = .ok (.iconst 0, 1) := by decide +kernel
theorem dL_law_703 : decode cL_law 703 = .ok (.ireturn, 1) := by decide +kernel
theorem dL_law_704 : decode cL_law 704 = .ok (.aload_n 1, 1) := by decide +kernel
theorem dL_law_705 : decode cL_law 705 = .ok (.aload_n 0, 1) := by decide +kernel
theorem dL_law_706 : decode cL_law 706 = .ok (.iload_n 3, 1) := by decide +kernel
theorem dL_law_707 : decode cL_law 707 = .ok (.iconst 1, 1) := by decide +kernel
theorem dL_law_708 : decode cL_law 708 = .ok (.iadd, 1) := by decide +kernel
theorem dL_law_709 : decode cL_law 709 = .ok (.iaload, 1) := by decide +kernel
theorem dL_law_710 : decode cL_law 710 = .ok (.aload_n 0, 1) := by decide +kernel
theorem dL_law_711 : decode cL_law 711 = .ok (.iload_n 3, 1) := by decide +kernel
theorem dL_law_712 : decode cL_law 712 = .ok (.iconst 2, 1) := by decide +kernel
theorem dL_law_713 : decode cL_law 713 = .ok (.iadd, 1) := by decide +kernel
theorem dL_law_714 : decode cL_law 714 = .ok (.iaload, 1) := by decide +kernel
theorem dL_law_715 : decode cL_law 715 = .ok (.invokevirtual 92, 3) := by decide +kernel
theorem dL_law_718 : decode cL_law 718 = .ok (.aload_n 2, 1) := by decide +kernel
theorem dL_law_719 : decode cL_law 719 = .ok (.aload_n 0, 1) := by decide +kernel
theorem dL_law_720 : decode cL_law 720 = .ok (.iload_n 3, 1) := by decide +kernel
theorem dL_law_721 : decode cL_law 721 = .ok (.iconst 1, 1) := by decide +kernel
theorem dL_law_722 : decode cL_law 722 = .ok (.iadd, 1) := by decide +kernel
theorem dL_law_723 : decode cL_law 723 = .ok (.iaload, 1) := by decide +kernel
theorem dL_law_724 : decode cL_law 724 = .ok (.aload_n 0, 1) := by decide +kernel
theorem dL_law_725 : decode cL_law 725 = .ok (.iload_n 3, 1) := by decide +kernel
theorem dL_law_726 : decode cL_law 726 = .ok (.iconst 2, 1) := by decide +kernel
theorem dL_law_727 : decode cL_law 727 = .ok (.iadd, 1) := by decide +kernel
theorem dL_law_728 : decode cL_law 728 = .ok (.iaload, 1) := by decide +kernel
theorem dL_law_729 : decode cL_law 729 = .ok (.invokevirtual 95, 3) := by decide +kernel
theorem dL_law_732 : decode cL_law 732 = .ok (.if_icmp .eq 87, 3) := by decide +kernel
theorem dL_law_735 : decode cL_law 735 = .ok (.iconst 0, 1) := by decide +kernel
theorem dL_law_736 : decode cL_law 736 = .ok (.ireturn, 1) := by decide +kernel
theorem dL_law_737 : decode cL_law 737 = .ok (.aload_n 1, 1) := by decide +kernel
theorem dL_law_738 : decode cL_law 738 = .ok (.aload_n 0, 1) := by decide +kernel
theorem dL_law_739 : decode cL_law 739 = .ok (.iload_n 3, 1) := by decide +kernel
theorem dL_law_740 : decode cL_law 740 = .ok (.iconst 1, 1) := by decide +kernel
theorem dL_law_741 : decode cL_law 741 = .ok (.iadd, 1) := by decide +kernel
theorem dL_law_742 : decode cL_law 742 = .ok (.iaload, 1) := by decide +kernel
theorem dL_law_743 : decode cL_law 743 = .ok (.aload_n 0, 1) := by decide +kernel
theorem dL_law_744 : decode cL_law 744 = .ok (.iload_n 3, 1) := by decide +kernel
theorem dL_law_745 : decode cL_law 745 = .ok (.iconst 2, 1) := by decide +kernel
theorem dL_law_746 : decode cL_law 746 = .ok (.iadd, 1) := by decide +kernel
theorem dL_law_747 : decode cL_law 747 = .ok (.iaload, 1) := by decide +kernel
theorem dL_law_748 : decode cL_law 748 = .ok (.invokevirtual 96, 3) := by decide +kernel
theorem dL_law_751 : decode cL_law 751 = .ok (.aload_n 2, 1) := by decide +kernel
theorem dL_law_752 : decode cL_law 752 = .ok (.aload_n 0, 1) := by decide +kernel
theorem dL_law_753 : decode cL_law 753 = .ok (.iload_n 3, 1) := by decide +kernel
theorem dL_law_754 : decode cL_law 754 = .ok (.iconst 1, 1) := by decide +kernel
theorem dL_law_755 : decode cL_law 755 = .ok (.iadd, 1) := by decide +kernel
theorem dL_law_756 : decode cL_law 756 = .ok (.iaload, 1) := by decide +kernel
theorem dL_law_757 : decode cL_law 757 = .ok (.aload_n 0, 1) := by decide +kernel
theorem dL_law_758 : decode cL_law 758 = .ok (.iload_n 3, 1) := by decide +kernel
theorem dL_law_759 : decode cL_law 759 = .ok (.iconst 2, 1) := by decide +kernel
theorem dL_law_760 : decode cL_law 760 = .ok (.iadd, 1) := by decide +kernel
theorem dL_law_761 : decode cL_law 761 = .ok (.iaload, 1) := by decide +kernel
theorem dL_law_762 : decode cL_law 762 = .ok (.invokevirtual 99, 3) := by decide +kernel
theorem dL_law_765 : decode cL_law 765 = .ok (.if_icmp .eq 54, 3) := by decide +kernel
theorem dL_law_768 : decode cL_law 768 = .ok (.iconst 0, 1) := by decide +kernel
theorem dL_law_769 : decode cL_law 769 = .ok (.ireturn, 1) := by decide +kernel
theorem dL_law_770 : decode cL_law 770 = .ok (.aload_n 1, 1) := by decide +kernel
theorem dL_law_771 : decode cL_law 771 = .ok (.invokevirtual 100, 3) := by decide +kernel
theorem dL_law_774 : decode cL_law 774 = .ok (.aload_n 2, 1) := by decide +kernel
theorem dL_law_775 : decode cL_law 775 = .ok (.invokevirtual 103, 3) := by decide +kernel
theorem dL_law_778 : decode cL_law 778 = .ok (.if_icmp .eq 41, 3) := by decide +kernel
theorem dL_law_781 : decode cL_law 781 = .ok (.iconst 0, 1) := by decide +kernel
theorem dL_law_782 : decode cL_law 782 = .ok (.ireturn, 1) := by decide +kernel
theorem dL_law_783 : decode cL_law 783 = .ok (.aload_n 1, 1) := by decide +kernel
theorem dL_law_784 : decode cL_law 784 = .ok (.invokevirtual 104, 3) := by decide +kernel
theorem dL_law_787 : decode cL_law 787 = .ok (.aload_n 2, 1) := by decide +kernel
theorem dL_law_788 : decode cL_law 788 = .ok (.invokevirtual 107, 3) := by decide +kernel
theorem dL_law_791 : decode cL_law 791 = .ok (.if_icmp .eq 28, 3) := by decide +kernel
theorem dL_law_794 : decode cL_law 794 = .ok (.iconst 0, 1) := by decide +kernel
theorem dL_law_795 : decode cL_law 795 = .ok (.ireturn, 1) := by decide +kernel
theorem dL_law_796 : decode cL_law 796 = .ok (.aload_n 1, 1) := by decide +kernel
theorem dL_law_797 : decode cL_law 797 = .ok (.aload_n 0, 1) := by decide +kernel
theorem dL_law_798 : decode cL_law 798 = .ok (.iload_n 3, 1) := by decide +kernel
theorem dL_law_799 : decode cL_law 799 = .ok (.iconst 1, 1) := by decide +kernel
theorem dL_law_800 : decode cL_law 800 = .ok (.iadd, 1) := by decide +kernel
theorem dL_law_801 : decode cL_law 801 = .ok (.iaload, 1) := by decide +kernel
theorem dL_law_802 : decode cL_law 802 = .ok (.invokevirtual 108, 3) := by decide +kernel
theorem dL_law_805 : decode cL_law 805 = .ok (.aload_n 2, 1) := by decide +kernel
theorem dL_law_806 : decode cL_law 806 = .ok (.aload_n 0, 1) := by decide +kernel
theorem dL_law_807 : decode cL_law 807 = .ok (.iload_n 3, 1) := by decide +kernel
theorem dL_law_808 : decode cL_law 808 = .ok (.iconst 1, 1) := by decide +kernel
theorem dL_law_809 : decode cL_law 809 = .ok (.iadd, 1) := by decide +kernel
theorem dL_law_810 : decode cL_law 810 = .ok (.iaload, 1) := by decide +kernel
theorem dL_law_811 : decode cL_law 811 = .ok (.invokevirtual 111, 3) := by decide +kernel
theorem dL_law_814 : decode cL_law 814 = .ok (.if_icmp .eq 5, 3) := by decide +kernel
theorem dL_law_817 : decode cL_law 817 = .ok (.iconst 0, 1) := by decide +kernel
theorem dL_law_818 : decode cL_law 818 = .ok (.ireturn, 1) := by decide +kernel
theorem dL_law_819 : decode cL_law 819 = .ok (.iinc 3 4, 3) := by decide +kernel
theorem dL_law_822 : decode cL_law 822 = .ok (.goto (-804), 3) := by decide +kernel
theorem dL_law_825 : decode cL_law 825 = .ok (.iconst 1, 1) := by decide +kernel
theorem dL_law_826 : decode cL_law 826 = .ok (.ireturn, 1) := by decide +kernel
end
section
theorem dX10_init_0 : decode cX10_init 0 = .ok (.aload_n 0, 1) := by decide +kernel
theorem dX10_init_1 : decode cX10_init 1 = .ok (.invokespecial 1, 3) := by decide +kernel
theorem dX10_init_4 : decode cX10_init 4 = .ok (.aload_n 0, 1) := by decide +kernel
theorem dX10_init_5 : decode cX10_init 5 = .ok (.sipush 300, 3) := by decide +kernel
theorem dX10_init_8 : decode cX10_init 8 = .ok (.newarray .byte, 2) := by decide +kernel
theorem dX10_init_10 : decode cX10_init 10 = .ok (.putfield 9, 3) := by decide +kernel
theorem dX10_init_13 : decode cX10_init 13 = .ok (.aload_n 0, 1) := by decide +kernel
theorem dX10_init_14 : decode cX10_init 14 = .ok (.iconst 0, 1) := by decide +kernel
theorem dX10_init_15 : decode cX10_init 15 = .ok (.putfield 13, 3) := by decide +kernel
theorem dX10_init_18 : decode cX10_init 18 = .ok (.aload_n 0, 1) := by decide +kernel
theorem dX10_init_19 : decode cX10_init 19 = .ok (.new 17, 3) := by decide +kernel
theorem dX10_init_22 : decode cX10_init 22 = .ok (.dup, 1) := by decide +kernel
theorem dX10_init_23 : decode cX10_init 23 = .ok (.invokespecial 19, 3) := by decide +kernel
theorem dX10_init_26 : decode cX10_init 26 = .ok (.putfield 20, 3) := by decide +kernel
theorem dX10_init_29 : decode cX10_init 29 = .ok (.aload_n 0, 1) := by decide +kernel
theorem dX10_init_30 : decode cX10_init 30 = .ok (.new 24, 3) := by decide +kernel
theorem dX10_init_33 : decode cX10_init 33 = .ok (.dup, 1) := by decide +kernel
theorem dX10_init_34 : decode cX10_init 34 = .ok (.invokespecial 26, 3) := by decide +kernel
theorem dX10_init_37 : decode cX10_init 37 = .ok (.putfield 27, 3) := by decide +kernel
theorem dX10_init_40 : decode cX10_init 40 = .ok (.aload_n 0, 1) := by decide +kernel
theorem dX10_init_41 : decode cX10_init 41 = .ok (.new 24, 3) := by decide +kernel
theorem dX10_init_44 : decode cX10_init 44 = .ok (.dup, 1) := by decide +kernel
theorem dX10_init_45 : decode cX10_init 45 = .ok (.invokespecial 26, 3) := by decide +kernel
theorem dX10_init_48 : decode cX10_init 48 = .ok (.putfield 31, 3) := by decide +kernel
theorem dX10_init_51 : decode cX10_init 51 = .ok (.aload_n 0, 1) := by decide +kernel
theorem dX10_init_52 : decode cX10_init 52 = .ok (.new 34, 3) := by decide +kernel
theorem dX10_init_55 : decode cX10_init 55 = .ok (.dup, 1) := by decide +kernel
theorem dX10_init_56 : decode cX10_init 56 = .ok (.aload_n 0, 1) := by decide +kernel
theorem dX10_init_57 : decode cX10_init 57 = .ok (.getfield 31, 3) := by decide +kernel
theorem dX10_init_60 : decode cX10_init 60 = .ok (.invokespecial 36, 3) := by decide +kernel
theorem dX10_init_63 : decode cX10_init 63 = .ok (.putfield 39, 3) := by decide +kernel
theorem dX10_init_66 : decode cX10_init 66 = .ok (.aload_n 0, 1) := by decide +kernel
theorem dX10_init_67 : decode cX10_init 67 = .ok (.bipush 8, 2) := by decide +kernel
theorem dX10_init_69 : decode cX10_init 69 = .ok (.newarray .int, 2) := by decide +kernel
theorem dX10_init_71 : decode cX10_init 71 = .ok (.putfield 43, 3) := by decide +kernel
theorem dX10_init_74 : decode cX10_init 74 = .ok (.aload_n 0, 1) := by decide +kernel
theorem dX10_init_75 : decode cX10_init 75 = .ok (.iconst 0, 1) := by decide +kernel
theorem dX10_init_76 : decode cX10_init 76 = .ok (.putfield 47, 3) := by decide +kernel
theorem dX10_init_79 : decode cX10_init 79 = .ok (.aload_n 0, 1) := by decide +kernel
theorem dX10_init_80 : decode cX10_init 80 = .ok (.bipush 8, 2) := by decide +kernel
theorem dX10_init_82 : decode cX10_init 82 = .ok (.newarray .int, 2) := by decide +kernel
theorem dX10_init_84 : decode cX10_init 84 = .ok (.putfield 50, 3) := by decide +kernel
theorem dX10_init_87 : decode cX10_init 87 = .ok (.aload_n 0, 1) := by decide +kernel
theorem dX10_init_88 : decode cX10_init 88 = .ok (.iconst 2, 1) := by decide +kernel
theorem dX10_init_89 : decode cX10_init 89 = .ok (.bipush 8, 2) := by decide +kernel
theorem dX10_init_91 : decode cX10_init 91 = .ok (.multianewarray 53 2, 4) := by decide +kernel
theorem dX10_init_95 : decode cX10_init 95 = .ok (.putfield 55, 3) := by decide +kernel
theorem dX10_init_98 : decode cX10_init 98 = .ok (.aload_n 0, 1) := by decide +kernel
theorem dX10_init_99 : decode cX10_init 99 = .ok (.iconst 2, 1) := by decide +kernel
theorem dX10_init_100 : decode cX10_init 100 = .ok (.newarray .int, 2) := by decide +kernel
theorem dX10_init_102 : decode cX10_init 102 = .ok (.putfield 58, 3) := by decide +kernel
theorem dX10_init_105 : decode cX10_init 105 = .ok (.aload_n 0, 1) := by decide +kernel
theorem dX10_init_106 : decode cX10_init 106 = .ok (.iconst 0, 1) := by decide +kernel
theorem dX10_init_107 : decode cX10_init 107 = .ok (.putfield 61, 3) := by decide +kernel
theorem dX10_init_110 : decode cX10_init 110 = .ok (.aload_n 0, 1) := by decide +kernel
theorem dX10_init_111 : decode cX10_init 111 = .ok (.new 64, 3) := by decide +kernel
theorem dX10_init_114 : decode cX10_init 114 = .ok (.dup, 1) := by decide +kernel
theorem dX10_init_115 : decode cX10_init 115 = .ok (.aload_n 0, 1) := by decide +kernel
theorem dX10_init_116 : decode cX10_init 116 = .ok (.getfield 31, 3) := by decide +kernel
theorem dX10_init_119 : decode cX10_init 119 = .ok (.aload_n 0, 1) := by decide +kernel
theorem dX10_init_120 : decode cX10_init 120 = .ok (.getfield 39, 3) := by decide +kernel
theorem dX10_init_123 : decode cX10_init 123 = .ok (.invokespecial 66, 3) := by decide +kernel
theorem dX10_init_126 : decode cX10_init 126 = .ok (.putfield 69, 3) := by decide +kernel
theorem dX10_init_129 : decode cX10_init 129 = .ok (.aload_n 0, 1) := by decide +kernel
theorem dX10_init_130 : decode cX10_init 130 = .ok (.new 73, 3) := by decide +kernel
theorem dX10_init_133 : decode cX10_init 133 = .ok (.dup, 1) := by decide +kernel
theorem dX10_init_134 : decode cX10_init 134 = .ok (.aload_n 0, 1) := by decide +kernel
theorem dX10_init_135 : decode cX10_init 135 = .ok (.getfield 31, 3) := by decide +kernel
theorem dX10_init_138 : decode cX10_init 138 = .ok (.aload_n 0, 1) := by decide +kernel
theorem dX10_init_139 : decode cX10_init 139 = .ok (.getfield 39, 3) := by decide +kernel
theorem dX10_init_142 : decode cX10_init 142 = .ok (.invokespecial 75, 3) := by decide +kernel
theorem dX10_init_145 : decode cX10_init 145 = .ok (.putfield 76, 3) := by decide +kernel
theorem dX10_init_148 : decode cX10_init 148 = .ok (.aload_n 0, 1) := by decide +kernel
theorem dX10_init_149 : decode cX10_init 149 = .ok (.new 80, 3) := by decide +kernel
theorem dX10_init_152 : decode cX10_init 152 = .ok (.dup, 1) := by decide +kernel
theorem dX10_init_153 : decode cX10_init 153 = .ok (.aload_n 0, 1) := by decide +kernel
theorem dX10_init_154 : decode cX10_init 154 = .ok (.getfield 31, 3) := by decide +kernel
theorem dX10_init_157 : decode cX10_init 157 = .ok (.aload_n 0, 1) := by decide +kernel
theorem dX10_init_158 : decode cX10_init 158 = .ok (.getfield 39, 3) := by decide +kernel
theorem dX10_init_161 : decode cX10_init 161 = .ok (.invokespecial 82, 3) := by decide +kernel
theorem dX10_init_164 : decode cX10_init 164 = .ok (.putfield 83, 3) := by decide +kernel
theorem dX10_init_167 : decode cX10_init 167 = .ok (.aload_n 0, 1) := by decide +kernel
theorem dX10_init_168 : decode cX10_init 168 = .ok (.new 87, 3) := by decide +kernel
theorem dX10_init_171 : decode cX10_init 171 = .ok (.dup, 1) := by decide +kernel
theorem dX10_init_172 : decode cX10_init 172 = .ok (.aload_n 0, 1) := by decide +kernel
theorem dX10_init_173 : decode cX10_init 173 = .ok (.getfield 31, 3) := by decide +kernel
theorem dX10_init_176 : decode cX10_init 176 = .ok (.aload_n 0, 1) := by decide +kernel
theorem dX10_init_177 : decode cX10_init 177 = .ok (.getfield 39, 3) := by decide +kernel
theorem dX10_init_180 : decode cX10_init 180 = .ok (.invokespecial 89, 3) := by decide +kernel
theorem dX10_init_183 : decode cX10_init 183 = .ok (.putfield 90, 3) := by decide +kernel
theorem dX10_init_186 : decode cX10_init 186 = .ok (.aload_n 0, 1) := by decide +kernel
theorem dX10_init_187 : decode cX10_init 187 = .ok (.new 94, 3) := by decide +kernel
theorem dX10_init_190 : decode cX10_init 190 = .ok (.dup, 1) := by decide +kernel
theorem dX10_init_191 : decode cX10_init 191 = .ok (.aload_n 0, 1) := by decide +kernel
theorem dX10_init_192 : decode cX10_init 192 = .ok (.getfield 31, 3) := by decide +kernel
theorem dX10_init_195 : decode cX10_init 195 = .ok (.aload_n 0, 1) := by decide +kernel
theorem dX10_init_196 : decode cX10_init 196 = .ok (.getfield 39, 3) := by decide +kernel
theorem dX10_init_199 : decode cX10_init 199 = .ok (.invokespecial 96, 3) := by decide +kernel
theorem dX10_init_202 : decode cX10_init 202 = .ok (.putfield 97, 3) := by decide +kernel
theorem dX10_init_205 : decode cX10_init 205 = .ok (.aload_n 0, 1) := by decide +kernel
theorem dX10_init_206 : decode cX10_init 206 = .ok (.new 101, 3) := by decide +kernel
theorem dX10_init_209 : decode cX10_init 209 = .ok (.dup, 1) := by decide +kernel
theorem dX10_init_210 : decode cX10_init 210 = .ok (.aload_n 0, 1) := by decide +kernel
theorem dX10_init_211 : decode cX10_init 211 = .ok (.getfield 31, 3) := by decide +kernel
theorem dX10_init_214 : decode cX10_init 214 = .ok (.aload_n 0, 1) := by decide +kernel
theorem dX10_init_215 : decode cX10_init 215 = .ok (.getfield 39, 3) := by decide +kernel
theorem dX10_init_218 : decode cX10_init 218 = .ok (.invokespecial 103, 3) := by decide +kernel
theorem dX10_init_221 : decode cX10_init 221 = .ok (.putfield 104, 3) := by decide +kernel
theorem dX10_init_224 : decode cX10_init 224 = .ok (.aload_n 0, 1) := by decide +kernel
theorem dX10_init_225 : decode cX10_init 225 = .ok (.getfield 31, 3) := by decide +kernel
theorem dX10_init_228 : decode cX10_init 228 = .ok (.bipush 9, 2) := by decide +kernel
theorem dX10_init_230 : decode cX10_init 230 = .ok (.iconst 0, 1) := by decide +kernel
theorem dX10_init_231 : decode cX10_init 231 = .ok (.invokevirtual 108, 3) := by decide +kernel
theorem dX10_init_234 : decode cX10_init 234 = .ok (.pop, 1) := by decide +kernel
theorem dX10_init_235 : decode cX10_init 235 = .ok (.aload_n 0, 1) := by decide +kernel
theorem dX10_init_236 : decode cX10_init 236 = .ok (.getfield 31, 3) := by decide +kernel
theorem dX10_init_239 : decode cX10_init 239 = .ok (.iconst 0, 1) := by decide +kernel
theorem dX10_init_240 : decode cX10_init 240 = .ok (.iconst 1, 1) := by decide +kernel
theorem dX10_init_241 : decode cX10_init 241 = .ok (.invokevirtual 108, 3) := by decide +kernel
theorem dX10_init_244 : decode cX10_init 244 = .ok (.pop, 1) := by decide +kernel
theorem dX10_init_245 : decode cX10_init 245 = .ok (.aload_n 0, 1) := by decide +kernel
theorem dX10_init_246 : decode cX10_init 246 = .ok (.getfield 31, 3) := by decide +kernel
theorem dX10_init_249 : decode cX10_init 249 = .ok (.invokevirtual 112, 3) := by decide +kernel
theorem dX10_init_252 : decode cX10_init 252 = .ok (.aload_n 0, 1) := by decide +kernel
theorem dX10_init_253 : decode cX10_init 253 = .ok (.invokevirtual 115, 3) := by decide +kernel
theorem dX10_init_256 : decode cX10_init 256 = .ok (.return_, 1) := by decide +kernel
theorem dX10_write_0 : decode cX10_write 0 = .ok (.iload_n 1, 1) := by decide +kernel
theorem dX10_write_1 : decode cX10_write 1 = .ok (.iconst 1, 1) := by decide +kernel
theorem dX10_write_2 : decode cX10_write 2 = .ok (.bipush 8, 2) := by decide +kernel
theorem dX10_write_4 : decode cX10_write 4 = .ok (.invokestatic 118, 3) := by decide +kernel
theorem dX10_write_7 : decode cX10_write 7 = .ok (.ifCond .ne 5, 3) := by decide +kernel
theorem dX10_write_10 : decode cX10_write 10 = .ok (.iconst (-1), 1) := by decide +kernel
theorem dX10_write_11 : decode cX10_write 11 = .ok (.ireturn, 1) := by decide +kernel
theorem dX10_write_12 : decode cX10_write 12 = .ok (.aload_n 0, 1) := by decide +kernel
theorem dX10_write_13 : decode cX10_write 13 = .ok (.getfield 13, 3) := by decide +kernel
theorem dX10_write_16 : decode cX10_write 16 = .ok (.iload_n 1, 1) := by decide +kernel
theorem dX10_write_17 : decode cX10_write 17 = .ok (.iadd, 1) := by decide +kernel
theorem dX10_write_18 : decode cX10_write 18 = .ok (.sipush 300, 3) := by decide +kernel
theorem dX10_write_21 : decode cX10_write 21 = .ok (.if_icmp .le 6, 3) := by decide +kernel
theorem dX10_write_24 : decode cX10_write 24 = .ok (.bipush (-3), 2) := by decide +kernel
theorem dX10_write_26 : decode cX10_write 26 = .ok (.ireturn, 1) := by decide +kernel
theorem dX10_write_27 : decode cX10_write 27 = .ok (.iload_n 1, 1) := by decide +kernel
theorem dX10_write_28 : decode cX10_write 28 = .ok (.iconst 1, 1) := by decide +kernel
theorem dX10_write_29 : decode cX10_write 29 = .ok (.isub, 1) := by decide +kernel
theorem dX10_write_30 : decode cX10_write 30 = .ok (.istore 4, 2) := by decide +kernel
theorem dX10_write_32 : decode cX10_write 32 = .ok (.iload 4, 2) := by decide +kernel
theorem dX10_write_34 : decode cX10_write 34 = .ok (.ifCond .lt 37, 3) := by decide +kernel
theorem dX10_write_37 : decode cX10_write 37 = .ok (.aload_n 0, 1) := by decide +kernel
theorem dX10_write_38 : decode cX10_write 38 = .ok (.getfield 9, 3) := by decide +kernel
theorem dX10_write_41 : decode cX10_write 41 = .ok (.aload_n 0, 1) := by decide +kernel
theorem dX10_write_42 : decode cX10_write 42 = .ok (.getfield 13, 3) := by decide +kernel
theorem dX10_write_45 : decode cX10_write 45 = .ok (.lload_n 2, 1) := by decide +kernel
theorem dX10_write_46 : decode cX10_write 46 = .ok (.bipush 8, 2) := by decide +kernel
theorem dX10_write_48 : decode cX10_write 48 = .ok (.iload 4, 2) := by decide +kernel
theorem dX10_write_50 : decode cX10_write 50 = .ok (.imul, 1) := by decide +kernel
theorem dX10_write_51 : decode cX10_write 51 = .ok (.lushr, 1) := by decide +kernel
theorem dX10_write_52 : decode cX10_write 52 = .ok (.l2i, 1) := by decide +kernel
theorem dX10_write_53 : decode cX10_write 53 = .ok (.i2b, 1) := by decide +kernel
theorem dX10_write_54 : decode cX10_write 54 = .ok (.bastore, 1) := by decide +kernel
theorem dX10_write_55 : decode cX10_write 55 = .ok (.aload_n 0, 1) := by decide +kernel
theorem dX10_write_56 : decode cX10_write 56 = .ok (.dup, 1) := by decide +kernel
theorem dX10_write_57 : decode cX10_write 57 = .ok (.getfield 13, 3) := by decide +kernel
theorem dX10_write_60 : decode cX10_write 60 = .ok (.iconst 1, 1) := by decide +kernel
theorem dX10_write_61 : decode cX10_write 61 = .ok (.iadd, 1) := by decide +kernel
theorem dX10_write_62 : decode cX10_write 62 = .ok (.putfield 13, 3) := by decide +kernel
theorem dX10_write_65 : decode cX10_write 65 = .ok (.iinc 4 (-1), 3) := by decide +kernel
theorem dX10_write_68 : decode cX10_write 68 = .ok (.goto (-36), 3) := by decide +kernel
theorem dX10_write_71 : decode cX10_write 71 = .ok (.aload_n 0, 1) := by decide +kernel
theorem dX10_write_72 : decode cX10_write 72 = .ok (.getfield 13, 3) := by decide +kernel
theorem dX10_write_75 : decode cX10_write 75 = .ok (.ireturn, 1) := by decide +kernel
theorem dX10_wipe_0 : decode cX10_wipe 0 = .ok (.aload_n 0, 1) := by decide +kernel
theorem dX10_wipe_1 : decode cX10_wipe 1 = .ok (.getfield 13, 3) := by decide +kernel
theorem dX10_wipe_4 : decode cX10_wipe 4 = .ok (.istore_n 1, 1) := by decide +kernel
theorem dX10_wipe_5 : decode cX10_wipe 5 = .ok (.aload_n 0, 1) := by decide +kernel
theorem dX10_wipe_6 : decode cX10_wipe 6 = .ok (.iconst 0, 1) := by decide +kernel
theorem dX10_wipe_7 : decode cX10_wipe 7 = .ok (.putfield 13, 3) := by decide +kernel
theorem dX10_wipe_10 : decode cX10_wipe 10 = .ok (.iload_n 1, 1) := by decide +kernel
theorem dX10_wipe_11 : decode cX10_wipe 11 = .ok (.ireturn, 1) := by decide +kernel
theorem dX10_fault_0 : decode cX10_fault 0 = .ok (.aload_n 0, 1) := by decide +kernel
theorem dX10_fault_1 : decode cX10_fault 1 = .ok (.getfield 20, 3) := by decide +kernel
theorem dX10_fault_4 : decode cX10_fault 4 = .ok (.aload_n 0, 1) := by decide +kernel
theorem dX10_fault_5 : decode cX10_fault 5 = .ok (.getfield 27, 3) := by decide +kernel
theorem dX10_fault_8 : decode cX10_fault 8 = .ok (.aload_n 0, 1) := by decide +kernel
theorem dX10_fault_9 : decode cX10_fault 9 = .ok (.getfield 9, 3) := by decide +kernel
theorem dX10_fault_12 : decode cX10_fault 12 = .ok (.aload_n 0, 1) := by decide +kernel
theorem dX10_fault_13 : decode cX10_fault 13 = .ok (.getfield 13, 3) := by decide +kernel
theorem dX10_fault_16 : decode cX10_fault 16 = .ok (.invokevirtual 122, 3) := by decide +kernel
theorem dX10_fault_19 : decode cX10_fault 19 = .ok (.ireturn, 1) := by decide +kernel
theorem dX10_lay_0 : decode cX10_lay 0 = .ok (.aload_n 0, 1) := by decide +kernel
theorem dX10_lay_1 : decode cX10_lay 1 = .ok (.getfield 20, 3) := by decide +kernel
theorem dX10_lay_4 : decode cX10_lay 4 = .ok (.aload_n 0, 1) := by decide +kernel
theorem dX10_lay_5 : decode cX10_lay 5 = .ok (.getfield 27, 3) := by decide +kernel
theorem dX10_lay_8 : decode cX10_lay 8 = .ok (.aload_n 0, 1) := by decide +kernel
theorem dX10_lay_9 : decode cX10_lay 9 = .ok (.getfield 9, 3) := by decide +kernel
theorem dX10_lay_12 : decode cX10_lay 12 = .ok (.aload_n 0, 1) := by decide +kernel
theorem dX10_lay_13 : decode cX10_lay 13 = .ok (.getfield 13, 3) := by decide +kernel
theorem dX10_lay_16 : decode cX10_lay 16 = .ok (.invokevirtual 122, 3) := by decide +kernel
theorem dX10_lay_19 : decode cX10_lay 19 = .ok (.bipush (-4), 2) := by decide +kernel
theorem dX10_lay_21 : decode cX10_lay 21 = .ok (.if_icmp .ne 13, 3) := by decide +kernel
theorem dX10_lay_24 : decode cX10_lay 24 = .ok (.aload_n 0, 1) := by decide +kernel
theorem dX10_lay_25 : decode cX10_lay 25 = .ok (.getfield 27, 3) := by decide +kernel
theorem dX10_lay_28 : decode cX10_lay 28 = .ok (.getfield 126, 3) := by decide +kernel
theorem dX10_lay_31 : decode cX10_lay 31 = .ok (.ifCond .ne 6, 3) := by decide +kernel
theorem dX10_lay_34 : decode cX10_lay 34 = .ok (.bipush (-2), 2) := by decide +kernel
theorem dX10_lay_36 : decode cX10_lay 36 = .ok (.ireturn, 1) := by decide +kernel
theorem dX10_lay_37 : decode cX10_lay 37 = .ok (.aload_n 0, 1) := by decide +kernel
theorem dX10_lay_38 : decode cX10_lay 38 = .ok (.getfield 20, 3) := by decide +kernel
theorem dX10_lay_41 : decode cX10_lay 41 = .ok (.aload_n 0, 1) := by decide +kernel
theorem dX10_lay_42 : decode cX10_lay 42 = .ok (.getfield 31, 3) := by decide +kernel
theorem dX10_lay_45 : decode cX10_lay 45 = .ok (.aload_n 0, 1) := by decide +kernel
theorem dX10_lay_46 : decode cX10_lay 46 = .ok (.getfield 9, 3) := by decide +kernel
theorem dX10_lay_49 : decode cX10_lay 49 = .ok (.aload_n 0, 1) := by decide +kernel
theorem dX10_lay_50 : decode cX10_lay 50 = .ok (.getfield 13, 3) := by decide +kernel
theorem dX10_lay_53 : decode cX10_lay 53 = .ok (.invokevirtual 122, 3) := by decide +kernel
theorem dX10_lay_56 : decode cX10_lay 56 = .ok (.pop, 1) := by decide +kernel
theorem dX10_lay_57 : decode cX10_lay 57 = .ok (.aload_n 0, 1) := by decide +kernel
theorem dX10_lay_58 : decode cX10_lay 58 = .ok (.getfield 31, 3) := by decide +kernel
theorem dX10_lay_61 : decode cX10_lay 61 = .ok (.invokevirtual 112, 3) := by decide +kernel
theorem dX10_lay_64 : decode cX10_lay 64 = .ok (.aload_n 0, 1) := by decide +kernel
theorem dX10_lay_65 : decode cX10_lay 65 = .ok (.invokevirtual 115, 3) := by decide +kernel
theorem dX10_lay_68 : decode cX10_lay 68 = .ok (.aload_n 0, 1) := by decide +kernel
theorem dX10_lay_69 : decode cX10_lay 69 = .ok (.getfield 31, 3) := by decide +kernel
theorem dX10_lay_72 : decode cX10_lay 72 = .ok (.getfield 126, 3) := by decide +kernel
theorem dX10_lay_75 : decode cX10_lay 75 = .ok (.ireturn, 1) := by decide +kernel
theorem dX10_bin_0 : decode cX10_bin 0 = .ok (.aload_n 0, 1) := by decide +kernel
theorem dX10_bin_1 : decode cX10_bin 1 = .ok (.iload_n 1, 1) := by decide +kernel
theorem dX10_bin_2 : decode cX10_bin 2 = .ok (.invokevirtual 129, 3) := by decide +kernel
theorem dX10_bin_5 : decode cX10_bin 5 = .ok (.ifCond .eq 12, 3) := by decide +kernel
theorem dX10_bin_8 : decode cX10_bin 8 = .ok (.iload_n 2, 1) := by decide +kernel
theorem dX10_bin_9 : decode cX10_bin 9 = .ok (.iconst 0, 1) := by decide +kernel
theorem dX10_bin_10 : decode cX10_bin 10 = .ok (.iconst 1, 1) := by decide +kernel
theorem dX10_bin_11 : decode cX10_bin 11 = .ok (.invokestatic 118, 3) := by decide +kernel
theorem dX10_bin_14 : decode cX10_bin 14 = .ok (.ifCond .ne 5, 3) := by decide +kernel
theorem dX10_bin_17 : decode cX10_bin 17 = .ok (.iconst (-1), 1) := by decide +kernel
theorem dX10_bin_18 : decode cX10_bin 18 = .ok (.ireturn, 1) := by decide +kernel
theorem dX10_bin_19 : decode cX10_bin 19 = .ok (.iload_n 2, 1) := by decide +kernel
theorem dX10_bin_20 : decode cX10_bin 20 = .ok (.ifCond .ne 12, 3) := by decide +kernel
theorem dX10_bin_23 : decode cX10_bin 23 = .ok (.aload_n 0, 1) := by decide +kernel
theorem dX10_bin_24 : decode cX10_bin 24 = .ok (.getfield 43, 3) := by decide +kernel
theorem dX10_bin_27 : decode cX10_bin 27 = .ok (.iload_n 1, 1) := by decide +kernel
theorem dX10_bin_28 : decode cX10_bin 28 = .ok (.iaload, 1) := by decide +kernel
theorem dX10_bin_29 : decode cX10_bin 29 = .ok (.goto 12, 3) := by decide +kernel
theorem dX10_bin_32 : decode cX10_bin 32 = .ok (.aload_n 0, 1) := by decide +kernel
theorem dX10_bin_33 : decode cX10_bin 33 = .ok (.getfield 31, 3) := by decide +kernel
theorem dX10_bin_36 : decode cX10_bin 36 = .ok (.getfield 133, 3) := by decide +kernel
theorem dX10_bin_39 : decode cX10_bin 39 = .ok (.iload_n 1, 1) := by decide +kernel
theorem dX10_bin_40 : decode cX10_bin 40 = .ok (.iaload, 1) := by decide +kernel
theorem dX10_bin_41 : decode cX10_bin 41 = .ok (.ireturn, 1) := by decide +kernel
theorem dX10_gap_0 : decode cX10_gap 0 = .ok (.iload_n 1, 1) := by decide +kernel
theorem dX10_gap_1 : decode cX10_gap 1 = .ok (.iconst 0, 1) := by decide +kernel
theorem dX10_gap_2 : decode cX10_gap 2 = .ok (.aload_n 0, 1) := by decide +kernel
theorem dX10_gap_3 : decode cX10_gap 3 = .ok (.getfield 31, 3) := by decide +kernel
theorem dX10_gap_6 : decode cX10_gap 6 = .ok (.getfield 136, 3) := by decide +kernel
theorem dX10_gap_9 : decode cX10_gap 9 = .ok (.iconst 1, 1) := by decide +kernel
theorem dX10_gap_10 : decode cX10_gap 10 = .ok (.isub, 1) := by decide +kernel
theorem dX10_gap_11 : decode cX10_gap 11 = .ok (.invokestatic 118, 3) := by decide +kernel
theorem dX10_gap_14 : decode cX10_gap 14 = .ok (.ifCond .eq 12, 3) := by decide +kernel
theorem dX10_gap_17 : decode cX10_gap 17 = .ok (.iload_n 2, 1) := by decide +kernel
theorem dX10_gap_18 : decode cX10_gap 18 = .ok (.iconst 0, 1) := by decide +kernel
theorem dX10_gap_19 : decode cX10_gap 19 = .ok (.iconst 2, 1) := by decide +kernel
theorem dX10_gap_20 : decode cX10_gap 20 = .ok (.invokestatic 118, 3) := by decide +kernel
theorem dX10_gap_23 : decode cX10_gap 23 = .ok (.ifCond .ne 5, 3) := by decide +kernel
theorem dX10_gap_26 : decode cX10_gap 26 = .ok (.iconst (-1), 1) := by decide +kernel
theorem dX10_gap_27 : decode cX10_gap 27 = .ok (.ireturn, 1) := by decide +kernel
theorem dX10_gap_28 : decode cX10_gap 28 = .ok (.iload_n 2, 1) := by decide +kernel
theorem dX10_gap_29 : decode cX10_gap 29 = .ok (.ifCond .ne 13, 3) := by decide +kernel
theorem dX10_gap_32 : decode cX10_gap 32 = .ok (.aload_n 0, 1) := by decide +kernel
theorem dX10_gap_33 : decode cX10_gap 33 = .ok (.getfield 31, 3) := by decide +kernel
theorem dX10_gap_36 : decode cX10_gap 36 = .ok (.getfield 139, 3) := by decide +kernel
theorem dX10_gap_39 : decode cX10_gap 39 = .ok (.iload_n 1, 1) := by decide +kernel
theorem dX10_gap_40 : decode cX10_gap 40 = .ok (.iaload, 1) := by decide +kernel
theorem dX10_gap_41 : decode cX10_gap 41 = .ok (.ireturn, 1) := by decide +kernel
theorem dX10_gap_42 : decode cX10_gap 42 = .ok (.iload_n 2, 1) := by decide +kernel
theorem dX10_gap_43 : decode cX10_gap 43 = .ok (.iconst 1, 1) := by decide +kernel
theorem dX10_gap_44 : decode cX10_gap 44 = .ok (.if_icmp .ne 13, 3) := by decide +kernel
theorem dX10_gap_47 : decode cX10_gap 47 = .ok (.aload_n 0, 1) := by decide +kernel
theorem dX10_gap_48 : decode cX10_gap 48 = .ok (.getfield 31, 3) := by decide +kernel
theorem dX10_gap_51 : decode cX10_gap 51 = .ok (.getfield 142, 3) := by decide +kernel
theorem dX10_gap_54 : decode cX10_gap 54 = .ok (.iload_n 1, 1) := by decide +kernel
theorem dX10_gap_55 : decode cX10_gap 55 = .ok (.iaload, 1) := by decide +kernel
theorem dX10_gap_56 : decode cX10_gap 56 = .ok (.ireturn, 1) := by decide +kernel
theorem dX10_gap_57 : decode cX10_gap 57 = .ok (.aload_n 0, 1) := by decide +kernel
theorem dX10_gap_58 : decode cX10_gap 58 = .ok (.getfield 31, 3) := by decide +kernel
theorem dX10_gap_61 : decode cX10_gap 61 = .ok (.getfield 145, 3) := by decide +kernel
theorem dX10_gap_64 : decode cX10_gap 64 = .ok (.iload_n 1, 1) := by decide +kernel
theorem dX10_gap_65 : decode cX10_gap 65 = .ok (.baload, 1) := by decide +kernel
theorem dX10_gap_66 : decode cX10_gap 66 = .ok (.ifCond .eq 7, 3) := by decide +kernel
theorem dX10_gap_69 : decode cX10_gap 69 = .ok (.iconst 1, 1) := by decide +kernel
theorem dX10_gap_70 : decode cX10_gap 70 = .ok (.goto 4, 3) := by decide +kernel
theorem dX10_gap_73 : decode cX10_gap 73 = .ok (.iconst 0, 1) := by decide +kernel
theorem dX10_gap_74 : decode cX10_gap 74 = .ok (.ireturn, 1) := by decide +kernel
theorem dX10_night_0 : decode cX10_night 0 = .ok (.aload_n 0, 1) := by decide +kernel
theorem dX10_night_1 : decode cX10_night 1 = .ok (.getfield 39, 3) := by decide +kernel
theorem dX10_night_4 : decode cX10_night 4 = .ok (.aload_n 0, 1) := by decide +kernel
theorem dX10_night_5 : decode cX10_night 5 = .ok (.getfield 31, 3) := by decide +kernel
theorem dX10_night_8 : decode cX10_night 8 = .ok (.getfield 149, 3) := by decide +kernel
theorem dX10_night_11 : decode cX10_night 11 = .ok (.aload_n 0, 1) := by decide +kernel
theorem dX10_night_12 : decode cX10_night 12 = .ok (.getfield 43, 3) := by decide +kernel
theorem dX10_night_15 : decode cX10_night 15 = .ok (.aload_n 0, 1) := by decide +kernel
theorem dX10_night_16 : decode cX10_night 16 = .ok (.getfield 47, 3) := by decide +kernel
theorem dX10_night_19 : decode cX10_night 19 = .ok (.iconst 1, 1) := by decide +kernel
theorem dX10_night_20 : decode cX10_night 20 = .ok (.ldc 152, 2) := by decide +kernel
theorem dX10_night_22 : decode cX10_night 22 = .ok (.invokevirtual 153, 3) := by decide +kernel
theorem dX10_night_25 : decode cX10_night 25 = .ok (.istore_n 1, 1) := by decide +kernel
theorem dX10_night_26 : decode cX10_night 26 = .ok (.aload_n 0, 1) := by decide +kernel
theorem dX10_night_27 : decode cX10_night 27 = .ok (.dup, 1) := by decide +kernel
theorem dX10_night_28 : decode cX10_night 28 = .ok (.getfield 47, 3) := by decide +kernel
theorem dX10_night_31 : decode cX10_night 31 = .ok (.iconst 1, 1) := by decide +kernel
theorem dX10_night_32 : decode cX10_night 32 = .ok (.iadd, 1) := by decide +kernel
theorem dX10_night_33 : decode cX10_night 33 = .ok (.putfield 47, 3) := by decide +kernel
theorem dX10_night_36 : decode cX10_night 36 = .ok (.iload_n 1, 1) := by decide +kernel
theorem dX10_night_37 : decode cX10_night 37 = .ok (.ireturn, 1) := by decide +kernel
theorem dX10_pour_0 : decode cX10_pour 0 = .ok (.aload_n 0, 1) := by decide +kernel
theorem dX10_pour_1 : decode cX10_pour 1 = .ok (.iload_n 1, 1) := by decide +kernel
theorem dX10_pour_2 : decode cX10_pour 2 = .ok (.invokevirtual 129, 3) := by decide +kernel
theorem dX10_pour_5 : decode cX10_pour 5 = .ok (.ifCond .eq 26, 3) := by decide +kernel
theorem dX10_pour_8 : decode cX10_pour 8 = .ok (.aload_n 0, 1) := by decide +kernel
theorem dX10_pour_9 : decode cX10_pour 9 = .ok (.iload_n 2, 1) := by decide +kernel
theorem dX10_pour_10 : decode cX10_pour 10 = .ok (.invokevirtual 129, 3) := by decide +kernel
theorem dX10_pour_13 : decode cX10_pour 13 = .ok (.ifCond .eq 18, 3) := by decide +kernel
theorem dX10_pour_16 : decode cX10_pour 16 = .ok (.iload_n 1, 1) := by decide +kernel
theorem dX10_pour_17 : decode cX10_pour 17 = .ok (.iload_n 2, 1) := by decide +kernel
theorem dX10_pour_18 : decode cX10_pour 18 = .ok (.if_icmp .eq 13, 3) := by decide +kernel
theorem dX10_pour_21 : decode cX10_pour 21 = .ok (.iload_n 3, 1) := by decide +kernel
theorem dX10_pour_22 : decode cX10_pour 22 = .ok (.iconst 1, 1) := by decide +kernel
theorem dX10_pour_23 : decode cX10_pour 23 = .ok (.bipush 99, 2) := by decide +kernel
theorem dX10_pour_25 : decode cX10_pour 25 = .ok (.invokestatic 118, 3) := by decide +kernel
theorem dX10_pour_28 : decode cX10_pour 28 = .ok (.ifCond .ne 5, 3) := by decide +kernel
theorem dX10_pour_31 : decode cX10_pour 31 = .ok (.iconst (-1), 1) := by decide +kernel
theorem dX10_pour_32 : decode cX10_pour 32 = .ok (.ireturn, 1) := by decide +kernel
theorem dX10_pour_33 : decode cX10_pour 33 = .ok (.aload_n 0, 1) := by decide +kernel
theorem dX10_pour_34 : decode cX10_pour 34 = .ok (.getfield 43, 3) := by decide +kernel
theorem dX10_pour_37 : decode cX10_pour 37 = .ok (.iload_n 1, 1) := by decide +kernel
theorem dX10_pour_38 : decode cX10_pour 38 = .ok (.iload_n 2, 1) := by decide +kernel
theorem dX10_pour_39 : decode cX10_pour 39 = .ok (.iload_n 3, 1) := by decide +kernel
theorem dX10_pour_40 : decode cX10_pour 40 = .ok (.invokestatic 157, 3) := by decide +kernel
theorem dX10_pour_43 : decode cX10_pour 43 = .ok (.ifCond .ne 6, 3) := by decide +kernel
theorem dX10_pour_46 : decode cX10_pour 46 = .ok (.bipush (-2), 2) := by decide +kernel
theorem dX10_pour_48 : decode cX10_pour 48 = .ok (.ireturn, 1) := by decide +kernel
theorem dX10_pour_49 : decode cX10_pour 49 = .ok (.aload_n 0, 1) := by decide +kernel
theorem dX10_pour_50 : decode cX10_pour 50 = .ok (.getfield 43, 3) := by decide +kernel
theorem dX10_pour_53 : decode cX10_pour 53 = .ok (.iload_n 1, 1) := by decide +kernel
theorem dX10_pour_54 : decode cX10_pour 54 = .ok (.dup2, 1) := by decide +kernel
theorem dX10_pour_55 : decode cX10_pour 55 = .ok (.iaload, 1) := by decide +kernel
theorem dX10_pour_56 : decode cX10_pour 56 = .ok (.iload_n 3, 1) := by decide +kernel
theorem dX10_pour_57 : decode cX10_pour 57 = .ok (.isub, 1) := by decide +kernel
theorem dX10_pour_58 : decode cX10_pour 58 = .ok (.iastore, 1) := by decide +kernel
theorem dX10_pour_59 : decode cX10_pour 59 = .ok (.aload_n 0, 1) := by decide +kernel
theorem dX10_pour_60 : decode cX10_pour 60 = .ok (.getfield 43, 3) := by decide +kernel
theorem dX10_pour_63 : decode cX10_pour 63 = .ok (.iload_n 2, 1) := by decide +kernel
theorem dX10_pour_64 : decode cX10_pour 64 = .ok (.dup2, 1) := by decide +kernel
theorem dX10_pour_65 : decode cX10_pour 65 = .ok (.iaload, 1) := by decide +kernel
theorem dX10_pour_66 : decode cX10_pour 66 = .ok (.iload_n 3, 1) := by decide +kernel
theorem dX10_pour_67 : decode cX10_pour 67 = .ok (.iadd, 1) := by decide +kernel
theorem dX10_pour_68 : decode cX10_pour 68 = .ok (.iastore, 1) := by decide +kernel
theorem dX10_pour_69 : decode cX10_pour 69 = .ok (.aload_n 0, 1) := by decide +kernel
theorem dX10_pour_70 : decode cX10_pour 70 = .ok (.getfield 43, 3) := by decide +kernel
theorem dX10_pour_73 : decode cX10_pour 73 = .ok (.iload_n 2, 1) := by decide +kernel
theorem dX10_pour_74 : decode cX10_pour 74 = .ok (.iaload, 1) := by decide +kernel
theorem dX10_pour_75 : decode cX10_pour 75 = .ok (.ireturn, 1) := by decide +kernel
theorem dX10_left_0 : decode cX10_left 0 = .ok (.aload_n 0, 1) := by decide +kernel
theorem dX10_left_1 : decode cX10_left 1 = .ok (.iload_n 1, 1) := by decide +kernel
theorem dX10_left_2 : decode cX10_left 2 = .ok (.invokevirtual 129, 3) := by decide +kernel
theorem dX10_left_5 : decode cX10_left 5 = .ok (.ifCond .eq 13, 3) := by decide +kernel
theorem dX10_left_8 : decode cX10_left 8 = .ok (.iload_n 2, 1) := by decide +kernel
theorem dX10_left_9 : decode cX10_left 9 = .ok (.iconst 0, 1) := by decide +kernel
theorem dX10_left_10 : decode cX10_left 10 = .ok (.bipush 60, 2) := by decide +kernel
theorem dX10_left_12 : decode cX10_left 12 = .ok (.invokestatic 118, 3) := by decide +kernel
theorem dX10_left_15 : decode cX10_left 15 = .ok (.ifCond .ne 5, 3) := by decide +kernel
theorem dX10_left_18 : decode cX10_left 18 = .ok (.iconst (-1), 1) := by decide +kernel
theorem dX10_left_19 : decode cX10_left 19 = .ok (.ireturn, 1) := by decide +kernel
theorem dX10_left_20 : decode cX10_left 20 = .ok (.aload_n 0, 1) := by decide +kernel
theorem dX10_left_21 : decode cX10_left 21 = .ok (.getfield 43, 3) := by decide +kernel
theorem dX10_left_24 : decode cX10_left 24 = .ok (.aload_n 0, 1) := by decide +kernel
theorem dX10_left_25 : decode cX10_left 25 = .ok (.getfield 50, 3) := by decide +kernel
theorem dX10_left_28 : decode cX10_left 28 = .ok (.invokestatic 161, 3) := by decide +kernel
theorem dX10_left_31 : decode cX10_left 31 = .ok (.aload_n 0, 1) := by decide +kernel
theorem dX10_left_32 : decode cX10_left 32 = .ok (.getfield 39, 3) := by decide +kernel
theorem dX10_left_35 : decode cX10_left 35 = .ok (.aload_n 0, 1) := by decide +kernel
theorem dX10_left_36 : decode cX10_left 36 = .ok (.getfield 31, 3) := by decide +kernel
theorem dX10_left_39 : decode cX10_left 39 = .ok (.getfield 149, 3) := by decide +kernel
theorem dX10_left_42 : decode cX10_left 42 = .ok (.aload_n 0, 1) := by decide +kernel
theorem dX10_left_43 : decode cX10_left 43 = .ok (.getfield 50, 3) := by decide +kernel
theorem dX10_left_46 : decode cX10_left 46 = .ok (.aload_n 0, 1) := by decide +kernel
theorem dX10_left_47 : decode cX10_left 47 = .ok (.getfield 47, 3) := by decide +kernel
theorem dX10_left_50 : decode cX10_left 50 = .ok (.iload_n 2, 1) := by decide +kernel
theorem dX10_left_51 : decode cX10_left 51 = .ok (.ldc 152, 2) := by decide +kernel
theorem dX10_left_53 : decode cX10_left 53 = .ok (.invokevirtual 153, 3) := by decide +kernel
theorem dX10_left_56 : decode cX10_left 56 = .ok (.pop, 1) := by decide +kernel
theorem dX10_left_57 : decode cX10_left 57 = .ok (.aload_n 0, 1) := by decide +kernel
theorem dX10_left_58 : decode cX10_left 58 = .ok (.getfield 50, 3) := by decide +kernel
theorem dX10_left_61 : decode cX10_left 61 = .ok (.iload_n 1, 1) := by decide +kernel
theorem dX10_left_62 : decode cX10_left 62 = .ok (.iaload, 1) := by decide +kernel
theorem dX10_left_63 : decode cX10_left 63 = .ok (.ireturn, 1) := by decide +kernel
theorem dX10_lost_0 : decode cX10_lost 0 = .ok (.iload_n 1, 1) := by decide +kernel
theorem dX10_lost_1 : decode cX10_lost 1 = .ok (.iconst 0, 1) := by decide +kernel
theorem dX10_lost_2 : decode cX10_lost 2 = .ok (.bipush 60, 2) := by decide +kernel
theorem dX10_lost_4 : decode cX10_lost 4 = .ok (.invokestatic 118, 3) := by decide +kernel
theorem dX10_lost_7 : decode cX10_lost 7 = .ok (.ifCond .eq 12, 3) := by decide +kernel
theorem dX10_lost_10 : decode cX10_lost 10 = .ok (.iload_n 2, 1) := by decide +kernel
theorem dX10_lost_11 : decode cX10_lost 11 = .ok (.iconst (-1), 1) := by decide +kernel
theorem dX10_lost_12 : decode cX10_lost 12 = .ok (.iconst 1, 1) := by decide +kernel
theorem dX10_lost_13 : decode cX10_lost 13 = .ok (.invokestatic 118, 3) := by decide +kernel
theorem dX10_lost_16 : decode cX10_lost 16 = .ok (.ifCond .ne 5, 3) := by decide +kernel
theorem dX10_lost_19 : decode cX10_lost 19 = .ok (.iconst (-1), 1) := by decide +kernel
theorem dX10_lost_20 : decode cX10_lost 20 = .ok (.ireturn, 1) := by decide +kernel
theorem dX10_lost_21 : decode cX10_lost 21 = .ok (.aload_n 0, 1) := by decide +kernel
theorem dX10_lost_22 : decode cX10_lost 22 = .ok (.getfield 43, 3) := by decide +kernel
theorem dX10_lost_25 : decode cX10_lost 25 = .ok (.aload_n 0, 1) := by decide +kernel
theorem dX10_lost_26 : decode cX10_lost 26 = .ok (.getfield 50, 3) := by decide +kernel
theorem dX10_lost_29 : decode cX10_lost 29 = .ok (.invokestatic 161, 3) := by decide +kernel
theorem dX10_lost_32 : decode cX10_lost 32 = .ok (.aload_n 0, 1) := by decide +kernel
theorem dX10_lost_33 : decode cX10_lost 33 = .ok (.getfield 39, 3) := by decide +kernel
theorem dX10_lost_36 : decode cX10_lost 36 = .ok (.aload_n 0, 1) := by decide +kernel
theorem dX10_lost_37 : decode cX10_lost 37 = .ok (.getfield 31, 3) := by decide +kernel
theorem dX10_lost_40 : decode cX10_lost 40 = .ok (.getfield 149, 3) := by decide +kernel
theorem dX10_lost_43 : decode cX10_lost 43 = .ok (.aload_n 0, 1) := by decide +kernel
theorem dX10_lost_44 : decode cX10_lost 44 = .ok (.getfield 50, 3) := by decide +kernel
theorem dX10_lost_47 : decode cX10_lost 47 = .ok (.aload_n 0, 1) := by decide +kernel
theorem dX10_lost_48 : decode cX10_lost 48 = .ok (.getfield 47, 3) := by decide +kernel
theorem dX10_lost_51 : decode cX10_lost 51 = .ok (.iload_n 1, 1) := by decide +kernel
theorem dX10_lost_52 : decode cX10_lost 52 = .ok (.ldc 152, 2) := by decide +kernel
theorem dX10_lost_54 : decode cX10_lost 54 = .ok (.invokevirtual 153, 3) := by decide +kernel
theorem dX10_lost_57 : decode cX10_lost 57 = .ok (.pop, 1) := by decide +kernel
theorem dX10_lost_58 : decode cX10_lost 58 = .ok (.aload_n 0, 1) := by decide +kernel
theorem dX10_lost_59 : decode cX10_lost 59 = .ok (.getfield 39, 3) := by decide +kernel
theorem dX10_lost_62 : decode cX10_lost 62 = .ok (.iload_n 2, 1) := by decide +kernel
theorem dX10_lost_63 : decode cX10_lost 63 = .ok (.invokevirtual 165, 3) := by decide +kernel
theorem dX10_lost_66 : decode cX10_lost 66 = .ok (.ireturn, 1) := by decide +kernel
theorem dX10_order_0 : decode cX10_order 0 = .ok (.iload_n 1, 1) := by decide +kernel
theorem dX10_order_1 : decode cX10_order 1 = .ok (.iconst 1, 1) := by decide +kernel
theorem dX10_order_2 : decode cX10_order 2 = .ok (.bipush 20, 2) := by decide +kernel
theorem dX10_order_4 : decode cX10_order 4 = .ok (.invokestatic 118, 3) := by decide +kernel
theorem dX10_order_7 : decode cX10_order 7 = .ok (.ifCond .eq 20, 3) := by decide +kernel
theorem dX10_order_10 : decode cX10_order 10 = .ok (.iload_n 2, 1) := by decide +kernel
theorem dX10_order_11 : decode cX10_order 11 = .ok (.iconst (-1), 1) := by decide +kernel
theorem dX10_order_12 : decode cX10_order 12 = .ok (.aload_n 0, 1) := by decide +kernel
theorem dX10_order_13 : decode cX10_order 13 = .ok (.getfield 31, 3) := by decide +kernel
theorem dX10_order_16 : decode cX10_order 16 = .ok (.getfield 126, 3) := by decide +kernel
theorem dX10_order_19 : decode cX10_order 19 = .ok (.iconst 1, 1) := by decide +kernel
theorem dX10_order_20 : decode cX10_order 20 = .ok (.isub, 1) := by decide +kernel
theorem dX10_order_21 : decode cX10_order 21 = .ok (.invokestatic 118, 3) := by decide +kernel
theorem dX10_order_24 : decode cX10_order 24 = .ok (.ifCond .ne 5, 3) := by decide +kernel
theorem dX10_order_27 : decode cX10_order 27 = .ok (.iconst (-1), 1) := by decide +kernel
theorem dX10_order_28 : decode cX10_order 28 = .ok (.ireturn, 1) := by decide +kernel
theorem dX10_order_29 : decode cX10_order 29 = .ok (.aload_n 0, 1) := by decide +kernel
theorem dX10_order_30 : decode cX10_order 30 = .ok (.getfield 69, 3) := by decide +kernel
theorem dX10_order_33 : decode cX10_order 33 = .ok (.aload_n 0, 1) := by decide +kernel
theorem dX10_order_34 : decode cX10_order 34 = .ok (.getfield 43, 3) := by decide +kernel
theorem dX10_order_37 : decode cX10_order 37 = .ok (.aload_n 0, 1) := by decide +kernel
theorem dX10_order_38 : decode cX10_order 38 = .ok (.getfield 47, 3) := by decide +kernel
theorem dX10_order_41 : decode cX10_order 41 = .ok (.iload_n 1, 1) := by decide +kernel
theorem dX10_order_42 : decode cX10_order 42 = .ok (.invokevirtual 169, 3) := by decide +kernel
theorem dX10_order_45 : decode cX10_order 45 = .ok (.iload_n 2, 1) := by decide +kernel
theorem dX10_order_46 : decode cX10_order 46 = .ok (.iconst (-1), 1) := by decide +kernel
theorem dX10_order_47 : decode cX10_order 47 = .ok (.if_icmp .ne 13, 3) := by decide +kernel
theorem dX10_order_50 : decode cX10_order 50 = .ok (.aload_n 0, 1) := by decide +kernel
theorem dX10_order_51 : decode cX10_order 51 = .ok (.getfield 69, 3) := by decide +kernel
theorem dX10_order_54 : decode cX10_order 54 = .ok (.getfield 173, 3) := by decide +kernel
theorem dX10_order_57 : decode cX10_order 57 = .ok (.goto 12, 3) := by decide +kernel
theorem dX10_order_60 : decode cX10_order 60 = .ok (.aload_n 0, 1) := by decide +kernel
theorem dX10_order_61 : decode cX10_order 61 = .ok (.getfield 69, 3) := by decide +kernel
theorem dX10_order_64 : decode cX10_order 64 = .ok (.getfield 176, 3) := by decide +kernel
theorem dX10_order_67 : decode cX10_order 67 = .ok (.iload_n 2, 1) := by decide +kernel
theorem dX10_order_68 : decode cX10_order 68 = .ok (.iaload, 1) := by decide +kernel
theorem dX10_order_69 : decode cX10_order 69 = .ok (.ireturn, 1) := by decide +kernel
theorem dX10_exchanged_0 : decode cX10_exchanged 0 = .ok (.iload_n 1, 1) := by decide +kernel
theorem dX10_exchanged_1 : decode cX10_exchanged 1 = .ok (.iconst 0, 1) := by decide +kernel
theorem dX10_exchanged_2 : decode cX10_exchanged 2 = .ok (.iconst 1, 1) := by decide +kernel
theorem dX10_exchanged_3 : decode cX10_exchanged 3 = .ok (.invokestatic 118, 3) := by decide +kernel
theorem dX10_exchanged_6 : decode cX10_exchanged 6 = .ok (.ifCond .ne 5, 3) := by decide +kernel
theorem dX10_exchanged_9 : decode cX10_exchanged 9 = .ok (.iconst (-1), 1) := by decide +kernel
theorem dX10_exchanged_10 : decode cX10_exchanged 10 = .ok (.ireturn, 1) := by decide +kernel
theorem dX10_exchanged_11 : decode cX10_exchanged 11 = .ok (.aload_n 0, 1) := by decide +kernel
theorem dX10_exchanged_12 : decode cX10_exchanged 12 = .ok (.getfield 76, 3) := by decide +kernel
theorem dX10_exchanged_15 : decode cX10_exchanged 15 = .ok (.aload_n 0, 1) := by decide +kernel
theorem dX10_exchanged_16 : decode cX10_exchanged 16 = .ok (.getfield 43, 3) := by decide +kernel
theorem dX10_exchanged_19 : decode cX10_exchanged 19 = .ok (.aload_n 0, 1) := by decide +kernel
theorem dX10_exchanged_20 : decode cX10_exchanged 20 = .ok (.getfield 47, 3) := by decide +kernel
theorem dX10_exchanged_23 : decode cX10_exchanged 23 = .ok (.invokevirtual 179, 3) := by decide +kernel
theorem dX10_exchanged_26 : decode cX10_exchanged 26 = .ok (.ifCond .ne 6, 3) := by decide +kernel
theorem dX10_exchanged_29 : decode cX10_exchanged 29 = .ok (.bipush (-4), 2) := by decide +kernel
theorem dX10_exchanged_31 : decode cX10_exchanged 31 = .ok (.ireturn, 1) := by decide +kernel
theorem dX10_exchanged_32 : decode cX10_exchanged 32 = .ok (.iload_n 1, 1) := by decide +kernel
theorem dX10_exchanged_33 : decode cX10_exchanged 33 = .ok (.ifCond .ne 13, 3) := by decide +kernel
theorem dX10_exchanged_36 : decode cX10_exchanged 36 = .ok (.aload_n 0, 1) := by decide +kernel
theorem dX10_exchanged_37 : decode cX10_exchanged 37 = .ok (.getfield 76, 3) := by decide +kernel
theorem dX10_exchanged_40 : decode cX10_exchanged 40 = .ok (.getfield 183, 3) := by decide +kernel
theorem dX10_exchanged_43 : decode cX10_exchanged 43 = .ok (.goto 10, 3) := by decide +kernel
theorem dX10_exchanged_46 : decode cX10_exchanged 46 = .ok (.aload_n 0, 1) := by decide +kernel
theorem dX10_exchanged_47 : decode cX10_exchanged 47 = .ok (.getfield 76, 3) := by decide +kernel
theorem dX10_exchanged_50 : decode cX10_exchanged 50 = .ok (.getfield 186, 3) := by decide +kernel
theorem dX10_exchanged_53 : decode cX10_exchanged 53 = .ok (.ireturn, 1) := by decide +kernel
theorem dX10_pours_0 : decode cX10_pours 0 = .ok (.iload_n 1, 1) := by decide +kernel
theorem dX10_pours_1 : decode cX10_pours 1 = .ok (.iconst 1, 1) := by decide +kernel
theorem dX10_pours_2 : decode cX10_pours 2 = .ok (.iconst 2, 1) := by decide +kernel
theorem dX10_pours_3 : decode cX10_pours 3 = .ok (.invokestatic 118, 3) := by decide +kernel
theorem dX10_pours_6 : decode cX10_pours 6 = .ok (.ifCond .eq 21, 3) := by decide +kernel
theorem dX10_pours_9 : decode cX10_pours 9 = .ok (.iload_n 2, 1) := by decide +kernel
theorem dX10_pours_10 : decode cX10_pours 10 = .ok (.iconst 1, 1) := by decide +kernel
theorem dX10_pours_11 : decode cX10_pours 11 = .ok (.iconst 5, 1) := by decide +kernel
theorem dX10_pours_12 : decode cX10_pours 12 = .ok (.invokestatic 118, 3) := by decide +kernel
theorem dX10_pours_15 : decode cX10_pours 15 = .ok (.ifCond .eq 12, 3) := by decide +kernel
theorem dX10_pours_18 : decode cX10_pours 18 = .ok (.iload_n 3, 1) := by decide +kernel
theorem dX10_pours_19 : decode cX10_pours 19 = .ok (.iconst 0, 1) := by decide +kernel
theorem dX10_pours_20 : decode cX10_pours 20 = .ok (.iconst 3, 1) := by decide +kernel
theorem dX10_pours_21 : decode cX10_pours 21 = .ok (.invokestatic 118, 3) := by decide +kernel
theorem dX10_pours_24 : decode cX10_pours 24 = .ok (.ifCond .ne 5, 3) := by decide +kernel
theorem dX10_pours_27 : decode cX10_pours 27 = .ok (.iconst (-1), 1) := by decide +kernel
theorem dX10_pours_28 : decode cX10_pours 28 = .ok (.ireturn, 1) := by decide +kernel
theorem dX10_pours_29 : decode cX10_pours 29 = .ok (.aload_n 0, 1) := by decide +kernel
theorem dX10_pours_30 : decode cX10_pours 30 = .ok (.getfield 83, 3) := by decide +kernel
theorem dX10_pours_33 : decode cX10_pours 33 = .ok (.aload_n 0, 1) := by decide +kernel
theorem dX10_pours_34 : decode cX10_pours 34 = .ok (.getfield 43, 3) := by decide +kernel
theorem dX10_pours_37 : decode cX10_pours 37 = .ok (.aload_n 0, 1) := by decide +kernel
theorem dX10_pours_38 : decode cX10_pours 38 = .ok (.getfield 47, 3) := by decide +kernel
theorem dX10_pours_41 : decode cX10_pours 41 = .ok (.iload_n 1, 1) := by decide +kernel
theorem dX10_pours_42 : decode cX10_pours 42 = .ok (.iload_n 2, 1) := by decide +kernel
theorem dX10_pours_43 : decode cX10_pours 43 = .ok (.invokevirtual 189, 3) := by decide +kernel
theorem dX10_pours_46 : decode cX10_pours 46 = .ok (.iload_n 3, 1) := by decide +kernel
theorem dX10_pours_47 : decode cX10_pours 47 = .ok (.ifCond .ne 11, 3) := by decide +kernel
theorem dX10_pours_50 : decode cX10_pours 50 = .ok (.aload_n 0, 1) := by decide +kernel
theorem dX10_pours_51 : decode cX10_pours 51 = .ok (.getfield 83, 3) := by decide +kernel
theorem dX10_pours_54 : decode cX10_pours 54 = .ok (.getfield 192, 3) := by decide +kernel
theorem dX10_pours_57 : decode cX10_pours 57 = .ok (.ireturn, 1) := by decide +kernel
theorem dX10_pours_58 : decode cX10_pours 58 = .ok (.aload_n 0, 1) := by decide +kernel
theorem dX10_pours_59 : decode cX10_pours 59 = .ok (.getfield 83, 3) := by decide +kernel
theorem dX10_pours_62 : decode cX10_pours 62 = .ok (.getfield 193, 3) := by decide +kernel
theorem dX10_pours_65 : decode cX10_pours 65 = .ok (.ifCond .ne 6, 3) := by decide +kernel
theorem dX10_pours_68 : decode cX10_pours 68 = .ok (.bipush (-4), 2) := by decide +kernel
theorem dX10_pours_70 : decode cX10_pours 70 = .ok (.ireturn, 1) := by decide +kernel
theorem dX10_pours_71 : decode cX10_pours 71 = .ok (.iload_n 3, 1) := by decide +kernel
theorem dX10_pours_72 : decode cX10_pours 72 = .ok (.iconst 1, 1) := by decide +kernel
theorem dX10_pours_73 : decode cX10_pours 73 = .ok (.if_icmp .ne 11, 3) := by decide +kernel
theorem dX10_pours_76 : decode cX10_pours 76 = .ok (.aload_n 0, 1) := by decide +kernel
theorem dX10_pours_77 : decode cX10_pours 77 = .ok (.getfield 83, 3) := by decide +kernel
theorem dX10_pours_80 : decode cX10_pours 80 = .ok (.getfield 196, 3) := by decide +kernel
theorem dX10_pours_83 : decode cX10_pours 83 = .ok (.ireturn, 1) := by decide +kernel
theorem dX10_pours_84 : decode cX10_pours 84 = .ok (.iload_n 3, 1) := by decide +kernel
theorem dX10_pours_85 : decode cX10_pours 85 = .ok (.iconst 2, 1) := by decide +kernel
theorem dX10_pours_86 : decode cX10_pours 86 = .ok (.if_icmp .ne 13, 3) := by decide +kernel
theorem dX10_pours_89 : decode cX10_pours 89 = .ok (.aload_n 0, 1) := by decide +kernel
theorem dX10_pours_90 : decode cX10_pours 90 = .ok (.getfield 83, 3) := by decide +kernel
theorem dX10_pours_93 : decode cX10_pours 93 = .ok (.getfield 199, 3) := by decide +kernel
theorem dX10_pours_96 : decode cX10_pours 96 = .ok (.goto 10, 3) := by decide +kernel
theorem dX10_pours_99 : decode cX10_pours 99 = .ok (.aload_n 0, 1) := by decide +kernel
theorem dX10_pours_100 : decode cX10_pours 100 = .ok (.getfield 83, 3) := by decide +kernel
theorem dX10_pours_103 : decode cX10_pours 103 = .ok (.getfield 193, 3) := by decide +kernel
theorem dX10_pours_106 : decode cX10_pours 106 = .ok (.ireturn, 1) := by decide +kernel
theorem dX10_corn_0 : decode cX10_corn 0 = .ok (.iload_n 1, 1) := by decide +kernel
theorem dX10_corn_1 : decode cX10_corn 1 = .ok (.iconst 1, 1) := by decide +kernel
theorem dX10_corn_2 : decode cX10_corn 2 = .ok (.bipush 31, 2) := by decide +kernel
theorem dX10_corn_4 : decode cX10_corn 4 = .ok (.invokestatic 118, 3) := by decide +kernel
theorem dX10_corn_7 : decode cX10_corn 7 = .ok (.ifCond .eq 20, 3) := by decide +kernel
theorem dX10_corn_10 : decode cX10_corn 10 = .ok (.iload_n 2, 1) := by decide +kernel
theorem dX10_corn_11 : decode cX10_corn 11 = .ok (.iconst (-1), 1) := by decide +kernel
theorem dX10_corn_12 : decode cX10_corn 12 = .ok (.aload_n 0, 1) := by decide +kernel
theorem dX10_corn_13 : decode cX10_corn 13 = .ok (.getfield 31, 3) := by decide +kernel
theorem dX10_corn_16 : decode cX10_corn 16 = .ok (.getfield 202, 3) := by decide +kernel
theorem dX10_corn_19 : decode cX10_corn 19 = .ok (.iconst 1, 1) := by decide +kernel
theorem dX10_corn_20 : decode cX10_corn 20 = .ok (.isub, 1) := by decide +kernel
theorem dX10_corn_21 : decode cX10_corn 21 = .ok (.invokestatic 118, 3) := by decide +kernel
theorem dX10_corn_24 : decode cX10_corn 24 = .ok (.ifCond .ne 5, 3) := by decide +kernel
theorem dX10_corn_27 : decode cX10_corn 27 = .ok (.iconst (-1), 1) := by decide +kernel
theorem dX10_corn_28 : decode cX10_corn 28 = .ok (.ireturn, 1) := by decide +kernel
theorem dX10_corn_29 : decode cX10_corn 29 = .ok (.aload_n 0, 1) := by decide +kernel
theorem dX10_corn_30 : decode cX10_corn 30 = .ok (.getfield 31, 3) := by decide +kernel
theorem dX10_corn_33 : decode cX10_corn 33 = .ok (.getfield 202, 3) := by decide +kernel
theorem dX10_corn_36 : decode cX10_corn 36 = .ok (.ifCond .eq 18, 3) := by decide +kernel
theorem dX10_corn_39 : decode cX10_corn 39 = .ok (.aload_n 0, 1) := by decide +kernel
theorem dX10_corn_40 : decode cX10_corn 40 = .ok (.getfield 90, 3) := by decide +kernel
theorem dX10_corn_43 : decode cX10_corn 43 = .ok (.aload_n 0, 1) := by decide +kernel
theorem dX10_corn_44 : decode cX10_corn 44 = .ok (.getfield 43, 3) := by decide +kernel
theorem dX10_corn_47 : decode cX10_corn 47 = .ok (.iload_n 1, 1) := by decide +kernel
theorem dX10_corn_48 : decode cX10_corn 48 = .ok (.invokevirtual 205, 3) := by decide +kernel
theorem dX10_corn_51 : decode cX10_corn 51 = .ok (.ifCond .ne 6, 3) := by decide +kernel
theorem dX10_corn_54 : decode cX10_corn 54 = .ok (.bipush (-4), 2) := by decide +kernel
theorem dX10_corn_56 : decode cX10_corn 56 = .ok (.ireturn, 1) := by decide +kernel
theorem dX10_corn_57 : decode cX10_corn 57 = .ok (.iload_n 2, 1) := by decide +kernel
theorem dX10_corn_58 : decode cX10_corn 58 = .ok (.iconst (-1), 1) := by decide +kernel
theorem dX10_corn_59 : decode cX10_corn 59 = .ok (.if_icmp .ne 13, 3) := by decide +kernel
theorem dX10_corn_62 : decode cX10_corn 62 = .ok (.aload_n 0, 1) := by decide +kernel
theorem dX10_corn_63 : decode cX10_corn 63 = .ok (.getfield 90, 3) := by decide +kernel
theorem dX10_corn_66 : decode cX10_corn 66 = .ok (.getfield 207, 3) := by decide +kernel
theorem dX10_corn_69 : decode cX10_corn 69 = .ok (.goto 12, 3) := by decide +kernel
theorem dX10_corn_72 : decode cX10_corn 72 = .ok (.aload_n 0, 1) := by decide +kernel
theorem dX10_corn_73 : decode cX10_corn 73 = .ok (.getfield 90, 3) := by decide +kernel
theorem dX10_corn_76 : decode cX10_corn 76 = .ok (.getfield 208, 3) := by decide +kernel
theorem dX10_corn_79 : decode cX10_corn 79 = .ok (.iload_n 2, 1) := by decide +kernel
theorem dX10_corn_80 : decode cX10_corn 80 = .ok (.iaload, 1) := by decide +kernel
theorem dX10_corn_81 : decode cX10_corn 81 = .ok (.ireturn, 1) := by decide +kernel
theorem dX10_cats_0 : decode cX10_cats 0 = .ok (.iload_n 1, 1) := by decide +kernel
theorem dX10_cats_1 : decode cX10_cats 1 = .ok (.iconst 1, 1) := by decide +kernel
theorem dX10_cats_2 : decode cX10_cats 2 = .ok (.iconst 3, 1) := by decide +kernel
theorem dX10_cats_3 : decode cX10_cats 3 = .ok (.invokestatic 118, 3) := by decide +kernel
theorem dX10_cats_6 : decode cX10_cats 6 = .ok (.ifCond .eq 24, 3) := by decide +kernel
theorem dX10_cats_9 : decode cX10_cats 9 = .ok (.iload_n 2, 1) := by decide +kernel
theorem dX10_cats_10 : decode cX10_cats 10 = .ok (.iconst 1, 1) := by decide +kernel
theorem dX10_cats_11 : decode cX10_cats 11 = .ok (.bipush 20, 2) := by decide +kernel
theorem dX10_cats_13 : decode cX10_cats 13 = .ok (.invokestatic 118, 3) := by decide +kernel
theorem dX10_cats_16 : decode cX10_cats 16 = .ok (.ifCond .eq 14, 3) := by decide +kernel
theorem dX10_cats_19 : decode cX10_cats 19 = .ok (.iload_n 3, 1) := by decide +kernel
theorem dX10_cats_20 : decode cX10_cats 20 = .ok (.iconst (-1), 1) := by decide +kernel
theorem dX10_cats_21 : decode cX10_cats 21 = .ok (.iload_n 1, 1) := by decide +kernel
theorem dX10_cats_22 : decode cX10_cats 22 = .ok (.iconst 1, 1) := by decide +kernel
theorem dX10_cats_23 : decode cX10_cats 23 = .ok (.isub, 1) := by decide +kernel
theorem dX10_cats_24 : decode cX10_cats 24 = .ok (.invokestatic 118, 3) := by decide +kernel
theorem dX10_cats_27 : decode cX10_cats 27 = .ok (.ifCond .ne 5, 3) := by decide +kernel
theorem dX10_cats_30 : decode cX10_cats 30 = .ok (.iconst (-1), 1) := by decide +kernel
theorem dX10_cats_31 : decode cX10_cats 31 = .ok (.ireturn, 1) := by decide +kernel
theorem dX10_cats_32 : decode cX10_cats 32 = .ok (.aload_n 0, 1) := by decide +kernel
theorem dX10_cats_33 : decode cX10_cats 33 = .ok (.getfield 97, 3) := by decide +kernel
theorem dX10_cats_36 : decode cX10_cats 36 = .ok (.aload_n 0, 1) := by decide +kernel
theorem dX10_cats_37 : decode cX10_cats 37 = .ok (.getfield 43, 3) := by decide +kernel
theorem dX10_cats_40 : decode cX10_cats 40 = .ok (.aload_n 0, 1) := by decide +kernel
theorem dX10_cats_41 : decode cX10_cats 41 = .ok (.getfield 47, 3) := by decide +kernel
theorem dX10_cats_44 : decode cX10_cats 44 = .ok (.iload_n 2, 1) := by decide +kernel
theorem dX10_cats_45 : decode cX10_cats 45 = .ok (.iload_n 1, 1) := by decide +kernel
theorem dX10_cats_46 : decode cX10_cats 46 = .ok (.invokevirtual 209, 3) := by decide +kernel
theorem dX10_cats_49 : decode cX10_cats 49 = .ok (.ifCond .ne 6, 3) := by decide +kernel
theorem dX10_cats_52 : decode cX10_cats 52 = .ok (.bipush (-4), 2) := by decide +kernel
theorem dX10_cats_54 : decode cX10_cats 54 = .ok (.ireturn, 1) := by decide +kernel
theorem dX10_cats_55 : decode cX10_cats 55 = .ok (.iload_n 3, 1) := by decide +kernel
theorem dX10_cats_56 : decode cX10_cats 56 = .ok (.iconst (-1), 1) := by decide +kernel
theorem dX10_cats_57 : decode cX10_cats 57 = .ok (.if_icmp .ne 13, 3) := by decide +kernel
theorem dX10_cats_60 : decode cX10_cats 60 = .ok (.aload_n 0, 1) := by decide +kernel
theorem dX10_cats_61 : decode cX10_cats 61 = .ok (.getfield 97, 3) := by decide +kernel
theorem dX10_cats_64 : decode cX10_cats 64 = .ok (.getfield 211, 3) := by decide +kernel
theorem dX10_cats_67 : decode cX10_cats 67 = .ok (.goto 12, 3) := by decide +kernel
theorem dX10_cats_70 : decode cX10_cats 70 = .ok (.aload_n 0, 1) := by decide +kernel
theorem dX10_cats_71 : decode cX10_cats 71 = .ok (.getfield 97, 3) := by decide +kernel
theorem dX10_cats_74 : decode cX10_cats 74 = .ok (.getfield 212, 3) := by decide +kernel
theorem dX10_cats_77 : decode cX10_cats 77 = .ok (.iload_n 3, 1) := by decide +kernel
theorem dX10_cats_78 : decode cX10_cats 78 = .ok (.iaload, 1) := by decide +kernel
theorem dX10_cats_79 : decode cX10_cats 79 = .ok (.ireturn, 1) := by decide +kernel
theorem dX10_moves_0 : decode cX10_moves 0 = .ok (.iload_n 1, 1) := by decide +kernel
theorem dX10_moves_1 : decode cX10_moves 1 = .ok (.iconst 0, 1) := by decide +kernel
theorem dX10_moves_2 : decode cX10_moves 2 = .ok (.iconst 2, 1) := by decide +kernel
theorem dX10_moves_3 : decode cX10_moves 3 = .ok (.invokestatic 118, 3) := by decide +kernel
theorem dX10_moves_6 : decode cX10_moves 6 = .ok (.ifCond .ne 5, 3) := by decide +kernel
theorem dX10_moves_9 : decode cX10_moves 9 = .ok (.iconst (-1), 1) := by decide +kernel
theorem dX10_moves_10 : decode cX10_moves 10 = .ok (.ireturn, 1) := by decide +kernel
theorem dX10_moves_11 : decode cX10_moves 11 = .ok (.aload_n 0, 1) := by decide +kernel
theorem dX10_moves_12 : decode cX10_moves 12 = .ok (.getfield 76, 3) := by decide +kernel
theorem dX10_moves_15 : decode cX10_moves 15 = .ok (.aload_n 0, 1) := by decide +kernel
theorem dX10_moves_16 : decode cX10_moves 16 = .ok (.getfield 43, 3) := by decide +kernel
theorem dX10_moves_19 : decode cX10_moves 19 = .ok (.aload_n 0, 1) := by decide +kernel
theorem dX10_moves_20 : decode cX10_moves 20 = .ok (.getfield 47, 3) := by decide +kernel
theorem dX10_moves_23 : decode cX10_moves 23 = .ok (.invokevirtual 213, 3) := by decide +kernel
theorem dX10_moves_26 : decode cX10_moves 26 = .ok (.iload_n 1, 1) := by decide +kernel
theorem dX10_moves_27 : decode cX10_moves 27 = .ok (.ifCond .le 18, 3) := by decide +kernel
theorem dX10_moves_30 : decode cX10_moves 30 = .ok (.aload_n 0, 1) := by decide +kernel
theorem dX10_moves_31 : decode cX10_moves 31 = .ok (.getfield 76, 3) := by decide +kernel
theorem dX10_moves_34 : decode cX10_moves 34 = .ok (.iload_n 1, 1) := by decide +kernel
theorem dX10_moves_35 : decode cX10_moves 35 = .ok (.iconst 1, 1) := by decide +kernel
theorem dX10_moves_36 : decode cX10_moves 36 = .ok (.isub, 1) := by decide +kernel
theorem dX10_moves_37 : decode cX10_moves 37 = .ok (.aload_n 0, 1) := by decide +kernel
theorem dX10_moves_38 : decode cX10_moves 38 = .ok (.getfield 47, 3) := by decide +kernel
theorem dX10_moves_41 : decode cX10_moves 41 = .ok (.invokevirtual 217, 3) := by decide +kernel
theorem dX10_moves_44 : decode cX10_moves 44 = .ok (.ireturn, 1) := by decide +kernel
theorem dX10_moves_45 : decode cX10_moves 45 = .ok (.aload_n 0, 1) := by decide +kernel
theorem dX10_moves_46 : decode cX10_moves 46 = .ok (.getfield 76, 3) := by decide +kernel
theorem dX10_moves_49 : decode cX10_moves 49 = .ok (.getfield 221, 3) := by decide +kernel
theorem dX10_moves_52 : decode cX10_moves 52 = .ok (.bipush 40, 2) := by decide +kernel
theorem dX10_moves_54 : decode cX10_moves 54 = .ok (.if_icmp .ne 8, 3) := by decide +kernel
theorem dX10_moves_57 : decode cX10_moves 57 = .ok (.bipush (-4), 2) := by decide +kernel
theorem dX10_moves_59 : decode cX10_moves 59 = .ok (.goto 10, 3) := by decide +kernel
theorem dX10_moves_62 : decode cX10_moves 62 = .ok (.aload_n 0, 1) := by decide +kernel
theorem dX10_moves_63 : decode cX10_moves 63 = .ok (.getfield 76, 3) := by decide +kernel
theorem dX10_moves_66 : decode cX10_moves 66 = .ok (.getfield 221, 3) := by decide +kernel
theorem dX10_moves_69 : decode cX10_moves 69 = .ok (.ireturn, 1) := by decide +kernel
theorem dX10_was_0 : decode cX10_was 0 = .ok (.iload_n 1, 1) := by decide +kernel
theorem dX10_was_1 : decode cX10_was 1 = .ok (.iconst 0, 1) := by decide +kernel
theorem dX10_was_2 : decode cX10_was 2 = .ok (.bipush 20, 2) := by decide +kernel
theorem dX10_was_4 : decode cX10_was 4 = .ok (.invokestatic 118, 3) := by decide +kernel
theorem dX10_was_7 : decode cX10_was 7 = .ok (.ifCond .eq 30, 3) := by decide +kernel
theorem dX10_was_10 : decode cX10_was 10 = .ok (.iload_n 2, 1) := by decide +kernel
theorem dX10_was_11 : decode cX10_was 11 = .ok (.iconst 0, 1) := by decide +kernel
theorem dX10_was_12 : decode cX10_was 12 = .ok (.bipush 6, 2) := by decide +kernel
theorem dX10_was_14 : decode cX10_was 14 = .ok (.invokestatic 118, 3) := by decide +kernel
theorem dX10_was_17 : decode cX10_was 17 = .ok (.ifCond .eq 20, 3) := by decide +kernel
theorem dX10_was_20 : decode cX10_was 20 = .ok (.iload_n 3, 1) := by decide +kernel
theorem dX10_was_21 : decode cX10_was 21 = .ok (.iconst (-1), 1) := by decide +kernel
theorem dX10_was_22 : decode cX10_was 22 = .ok (.aload_n 0, 1) := by decide +kernel
theorem dX10_was_23 : decode cX10_was 23 = .ok (.getfield 31, 3) := by decide +kernel
theorem dX10_was_26 : decode cX10_was 26 = .ok (.getfield 126, 3) := by decide +kernel
theorem dX10_was_29 : decode cX10_was 29 = .ok (.iconst 1, 1) := by decide +kernel
theorem dX10_was_30 : decode cX10_was 30 = .ok (.isub, 1) := by decide +kernel
theorem dX10_was_31 : decode cX10_was 31 = .ok (.invokestatic 118, 3) := by decide +kernel
theorem dX10_was_34 : decode cX10_was 34 = .ok (.ifCond .ne 5, 3) := by decide +kernel
theorem dX10_was_37 : decode cX10_was 37 = .ok (.iconst (-1), 1) := by decide +kernel
theorem dX10_was_38 : decode cX10_was 38 = .ok (.ireturn, 1) := by decide +kernel
theorem dX10_was_39 : decode cX10_was 39 = .ok (.aload_n 0, 1) := by decide +kernel
theorem dX10_was_40 : decode cX10_was 40 = .ok (.getfield 31, 3) := by decide +kernel
theorem dX10_was_43 : decode cX10_was 43 = .ok (.getfield 126, 3) := by decide +kernel
theorem dX10_was_46 : decode cX10_was 46 = .ok (.iconst 4, 1) := by decide +kernel
theorem dX10_was_47 : decode cX10_was 47 = .ok (.if_icmp .le 6, 3) := by decide +kernel
theorem dX10_was_50 : decode cX10_was 50 = .ok (.bipush (-2), 2) := by decide +kernel
theorem dX10_was_52 : decode cX10_was 52 = .ok (.ireturn, 1) := by decide +kernel
theorem dX10_was_53 : decode cX10_was 53 = .ok (.aload_n 0, 1) := by decide +kernel
theorem dX10_was_54 : decode cX10_was 54 = .ok (.getfield 104, 3) := by decide +kernel
theorem dX10_was_57 : decode cX10_was 57 = .ok (.aload_n 0, 1) := by decide +kernel
theorem dX10_was_58 : decode cX10_was 58 = .ok (.getfield 43, 3) := by decide +kernel
theorem dX10_was_61 : decode cX10_was 61 = .ok (.iload_n 1, 1) := by decide +kernel
theorem dX10_was_62 : decode cX10_was 62 = .ok (.iload_n 2, 1) := by decide +kernel
theorem dX10_was_63 : decode cX10_was 63 = .ok (.invokevirtual 224, 3) := by decide +kernel
theorem dX10_was_66 : decode cX10_was 66 = .ok (.iload_n 3, 1) := by decide +kernel
theorem dX10_was_67 : decode cX10_was 67 = .ok (.iconst (-1), 1) := by decide +kernel
theorem dX10_was_68 : decode cX10_was 68 = .ok (.if_icmp .ne 11, 3) := by decide +kernel
theorem dX10_was_71 : decode cX10_was 71 = .ok (.aload_n 0, 1) := by decide +kernel
theorem dX10_was_72 : decode cX10_was 72 = .ok (.getfield 104, 3) := by decide +kernel
theorem dX10_was_75 : decode cX10_was 75 = .ok (.getfield 225, 3) := by decide +kernel
theorem dX10_was_78 : decode cX10_was 78 = .ok (.ireturn, 1) := by decide +kernel
theorem dX10_was_79 : decode cX10_was 79 = .ok (.aload_n 0, 1) := by decide +kernel
theorem dX10_was_80 : decode cX10_was 80 = .ok (.getfield 104, 3) := by decide +kernel
theorem dX10_was_83 : decode cX10_was 83 = .ok (.getfield 225, 3) := by decide +kernel
theorem dX10_was_86 : decode cX10_was 86 = .ok (.ifCond .ne 8, 3) := by decide +kernel
theorem dX10_was_89 : decode cX10_was 89 = .ok (.bipush (-4), 2) := by decide +kernel
theorem dX10_was_91 : decode cX10_was 91 = .ok (.goto 12, 3) := by decide +kernel
theorem dX10_was_94 : decode cX10_was 94 = .ok (.aload_n 0, 1) := by decide +kernel
theorem dX10_was_95 : decode cX10_was 95 = .ok (.getfield 104, 3) := by decide +kernel
theorem dX10_was_98 : decode cX10_was 98 = .ok (.getfield 228, 3) := by decide +kernel
theorem dX10_was_101 : decode cX10_was 101 = .ok (.iload_n 3, 1) := by decide +kernel
theorem dX10_was_102 : decode cX10_was 102 = .ok (.iaload, 1) := by decide +kernel
theorem dX10_was_103 : decode cX10_was 103 = .ok (.ireturn, 1) := by decide +kernel
theorem dX10_others_0 : decode cX10_others 0 = .ok (.iload_n 1, 1) := by decide +kernel
theorem dX10_others_1 : decode cX10_others 1 = .ok (.iconst 0, 1) := by decide +kernel
theorem dX10_others_2 : decode cX10_others 2 = .ok (.iconst 3, 1) := by decide +kernel
theorem dX10_others_3 : decode cX10_others 3 = .ok (.invokestatic 118, 3) := by decide +kernel
theorem dX10_others_6 : decode cX10_others 6 = .ok (.ifCond .eq 13, 3) := by decide +kernel
theorem dX10_others_9 : decode cX10_others 9 = .ok (.iload_n 2, 1) := by decide +kernel
theorem dX10_others_10 : decode cX10_others 10 = .ok (.iconst 0, 1) := by decide +kernel
theorem dX10_others_11 : decode cX10_others 11 = .ok (.bipush 60, 2) := by decide +kernel
theorem dX10_others_13 : decode cX10_others 13 = .ok (.invokestatic 118, 3) := by decide +kernel
theorem dX10_others_16 : decode cX10_others 16 = .ok (.ifCond .ne 5, 3) := by decide +kernel
theorem dX10_others_19 : decode cX10_others 19 = .ok (.iconst (-1), 1) := by decide +kernel
theorem dX10_others_20 : decode cX10_others 20 = .ok (.ireturn, 1) := by decide +kernel
theorem dX10_others_21 : decode cX10_others 21 = .ok (.aload_n 0, 1) := by decide +kernel
theorem dX10_others_22 : decode cX10_others 22 = .ok (.getfield 43, 3) := by decide +kernel
theorem dX10_others_25 : decode cX10_others 25 = .ok (.aload_n 0, 1) := by decide +kernel
theorem dX10_others_26 : decode cX10_others 26 = .ok (.getfield 50, 3) := by decide +kernel
theorem dX10_others_29 : decode cX10_others 29 = .ok (.invokestatic 161, 3) := by decide +kernel
theorem dX10_others_32 : decode cX10_others 32 = .ok (.aload_n 0, 1) := by decide +kernel
theorem dX10_others_33 : decode cX10_others 33 = .ok (.getfield 39, 3) := by decide +kernel
theorem dX10_others_36 : decode cX10_others 36 = .ok (.iload_n 1, 1) := by decide +kernel
theorem dX10_others_37 : decode cX10_others 37 = .ok (.aload_n 0, 1) := by decide +kernel
theorem dX10_others_38 : decode cX10_others 38 = .ok (.getfield 50, 3) := by decide +kernel
theorem dX10_others_41 : decode cX10_others 41 = .ok (.aload_n 0, 1) := by decide +kernel
theorem dX10_others_42 : decode cX10_others 42 = .ok (.getfield 47, 3) := by decide +kernel
theorem dX10_others_45 : decode cX10_others 45 = .ok (.iload_n 2, 1) := by decide +kernel
theorem dX10_others_46 : decode cX10_others 46 = .ok (.ldc 152, 2) := by decide +kernel
theorem dX10_others_48 : decode cX10_others 48 = .ok (.invokevirtual 153, 3) := by decide +kernel
theorem dX10_others_51 : decode cX10_others 51 = .ok (.ireturn, 1) := by decide +kernel
theorem dX10_drawn_0 : decode cX10_drawn 0 = .ok (.iload_n 1, 1) := by decide +kernel
theorem dX10_drawn_1 : decode cX10_drawn 1 = .ok (.iconst 0, 1) := by decide +kernel
theorem dX10_drawn_2 : decode cX10_drawn 2 = .ok (.sipush 9999, 3) := by decide +kernel
theorem dX10_drawn_5 : decode cX10_drawn 5 = .ok (.invokestatic 118, 3) := by decide +kernel
theorem dX10_drawn_8 : decode cX10_drawn 8 = .ok (.ifCond .eq 13, 3) := by decide +kernel
theorem dX10_drawn_11 : decode cX10_drawn 11 = .ok (.iload_n 2, 1) := by decide +kernel
theorem dX10_drawn_12 : decode cX10_drawn 12 = .ok (.iconst 0, 1) := by decide +kernel
theorem dX10_drawn_13 : decode cX10_drawn 13 = .ok (.bipush 60, 2) := by decide +kernel
theorem dX10_drawn_15 : decode cX10_drawn 15 = .ok (.invokestatic 118, 3) := by decide +kernel
theorem dX10_drawn_18 : decode cX10_drawn 18 = .ok (.ifCond .ne 5, 3) := by decide +kernel
theorem dX10_drawn_21 : decode cX10_drawn 21 = .ok (.iconst (-1), 1) := by decide +kernel
theorem dX10_drawn_22 : decode cX10_drawn 22 = .ok (.ireturn, 1) := by decide +kernel
theorem dX10_drawn_23 : decode cX10_drawn 23 = .ok (.aload_n 0, 1) := by decide +kernel
theorem dX10_drawn_24 : decode cX10_drawn 24 = .ok (.iload_n 1, 1) := by decide +kernel
theorem dX10_drawn_25 : decode cX10_drawn 25 = .ok (.invokevirtual 231, 3) := by decide +kernel
theorem dX10_drawn_28 : decode cX10_drawn 28 = .ok (.aload_n 0, 1) := by decide +kernel
theorem dX10_drawn_29 : decode cX10_drawn 29 = .ok (.getfield 39, 3) := by decide +kernel
theorem dX10_drawn_32 : decode cX10_drawn 32 = .ok (.aload_n 0, 1) := by decide +kernel
theorem dX10_drawn_33 : decode cX10_drawn 33 = .ok (.getfield 31, 3) := by decide +kernel
theorem dX10_drawn_36 : decode cX10_drawn 36 = .ok (.getfield 149, 3) := by decide +kernel
theorem dX10_drawn_39 : decode cX10_drawn 39 = .ok (.aload_n 0, 1) := by decide +kernel
theorem dX10_drawn_40 : decode cX10_drawn 40 = .ok (.getfield 50, 3) := by decide +kernel
theorem dX10_drawn_43 : decode cX10_drawn 43 = .ok (.aload_n 0, 1) := by decide +kernel
theorem dX10_drawn_44 : decode cX10_drawn 44 = .ok (.getfield 47, 3) := by decide +kernel
theorem dX10_drawn_47 : decode cX10_drawn 47 = .ok (.iload_n 2, 1) := by decide +kernel
theorem dX10_drawn_48 : decode cX10_drawn 48 = .ok (.ldc 152, 2) := by decide +kernel
theorem dX10_drawn_50 : decode cX10_drawn 50 = .ok (.invokevirtual 153, 3) := by decide +kernel
theorem dX10_drawn_53 : decode cX10_drawn 53 = .ok (.ireturn, 1) := by decide +kernel
theorem dX10_ten_0 : decode cX10_ten 0 = .ok (.iload_n 1, 1) := by decide +kernel
theorem dX10_ten_1 : decode cX10_ten 1 = .ok (.iconst 0, 1) := by decide +kernel
theorem dX10_ten_2 : decode cX10_ten 2 = .ok (.sipush 9999, 3) := by decide +kernel
theorem dX10_ten_5 : decode cX10_ten 5 = .ok (.invokestatic 118, 3) := by decide +kernel
theorem dX10_ten_8 : decode cX10_ten 8 = .ok (.ifCond .eq 13, 3) := by decide +kernel
theorem dX10_ten_11 : decode cX10_ten 11 = .ok (.iload_n 2, 1) := by decide +kernel
theorem dX10_ten_12 : decode cX10_ten 12 = .ok (.iconst 0, 1) := by decide +kernel
theorem dX10_ten_13 : decode cX10_ten 13 = .ok (.bipush 60, 2) := by decide +kernel
theorem dX10_ten_15 : decode cX10_ten 15 = .ok (.invokestatic 118, 3) := by decide +kernel
theorem dX10_ten_18 : decode cX10_ten 18 = .ok (.ifCond .ne 5, 3) := by decide +kernel
theorem dX10_ten_21 : decode cX10_ten 21 = .ok (.iconst (-1), 1) := by decide +kernel
theorem dX10_ten_22 : decode cX10_ten 22 = .ok (.ireturn, 1) := by decide +kernel
theorem dX10_ten_23 : decode cX10_ten 23 = .ok (.iconst 0, 1) := by decide +kernel
theorem dX10_ten_24 : decode cX10_ten 24 = .ok (.istore_n 3, 1) := by decide +kernel
theorem dX10_ten_25 : decode cX10_ten 25 = .ok (.iconst 0, 1) := by decide +kernel
theorem dX10_ten_26 : decode cX10_ten 26 = .ok (.istore 4, 2) := by decide +kernel
theorem dX10_ten_28 : decode cX10_ten 28 = .ok (.iload 4, 2) := by decide +kernel
theorem dX10_ten_30 : decode cX10_ten 30 = .ok (.bipush 10, 2) := by decide +kernel
theorem dX10_ten_32 : decode cX10_ten 32 = .ok (.if_icmp .ge 66, 3) := by decide +kernel
theorem dX10_ten_35 : decode cX10_ten 35 = .ok (.aload_n 0, 1) := by decide +kernel
theorem dX10_ten_36 : decode cX10_ten 36 = .ok (.iload_n 1, 1) := by decide +kernel
theorem dX10_ten_37 : decode cX10_ten 37 = .ok (.iload 4, 2) := by decide +kernel
theorem dX10_ten_39 : decode cX10_ten 39 = .ok (.iadd, 1) := by decide +kernel
theorem dX10_ten_40 : decode cX10_ten 40 = .ok (.sipush 10000, 3) := by decide +kernel
theorem dX10_ten_43 : decode cX10_ten 43 = .ok (.irem, 1) := by decide +kernel
theorem dX10_ten_44 : decode cX10_ten 44 = .ok (.invokevirtual 231, 3) := by decide +kernel
theorem dX10_ten_47 : decode cX10_ten 47 = .ok (.aload_n 0, 1) := by decide +kernel
theorem dX10_ten_48 : decode cX10_ten 48 = .ok (.aload_n 0, 1) := by decide +kernel
theorem dX10_ten_49 : decode cX10_ten 49 = .ok (.getfield 50, 3) := by decide +kernel
theorem dX10_ten_52 : decode cX10_ten 52 = .ok (.invokevirtual 235, 3) := by decide +kernel
theorem dX10_ten_55 : decode cX10_ten 55 = .ok (.istore 5, 2) := by decide +kernel
theorem dX10_ten_57 : decode cX10_ten 57 = .ok (.iconst 2, 1) := by decide +kernel
theorem dX10_ten_58 : decode cX10_ten 58 = .ok (.aload_n 0, 1) := by decide +kernel
theorem dX10_ten_59 : decode cX10_ten 59 = .ok (.getfield 39, 3) := by decide +kernel
theorem dX10_ten_62 : decode cX10_ten 62 = .ok (.aload_n 0, 1) := by decide +kernel
theorem dX10_ten_63 : decode cX10_ten 63 = .ok (.getfield 31, 3) := by decide +kernel
theorem dX10_ten_66 : decode cX10_ten 66 = .ok (.getfield 149, 3) := by decide +kernel
theorem dX10_ten_69 : decode cX10_ten 69 = .ok (.aload_n 0, 1) := by decide +kernel
theorem dX10_ten_70 : decode cX10_ten 70 = .ok (.getfield 50, 3) := by decide +kernel
theorem dX10_ten_73 : decode cX10_ten 73 = .ok (.aload_n 0, 1) := by decide +kernel
theorem dX10_ten_74 : decode cX10_ten 74 = .ok (.getfield 47, 3) := by decide +kernel
theorem dX10_ten_77 : decode cX10_ten 77 = .ok (.iload_n 2, 1) := by decide +kernel
theorem dX10_ten_78 : decode cX10_ten 78 = .ok (.ldc 152, 2) := by decide +kernel
theorem dX10_ten_80 : decode cX10_ten 80 = .ok (.invokevirtual 153, 3) := by decide +kernel
theorem dX10_ten_83 : decode cX10_ten 83 = .ok (.imul, 1) := by decide +kernel
theorem dX10_ten_84 : decode cX10_ten 84 = .ok (.iload 5, 2) := by decide +kernel
theorem dX10_ten_86 : decode cX10_ten 86 = .ok (.if_icmp .le 6, 3) := by decide +kernel
theorem dX10_ten_89 : decode cX10_ten 89 = .ok (.iinc 3 1, 3) := by decide +kernel
theorem dX10_ten_92 : decode cX10_ten 92 = .ok (.iinc 4 1, 3) := by decide +kernel
theorem dX10_ten_95 : decode cX10_ten 95 = .ok (.goto (-67), 3) := by decide +kernel
theorem dX10_ten_98 : decode cX10_ten 98 = .ok (.iload_n 3, 1) := by decide +kernel
theorem dX10_ten_99 : decode cX10_ten 99 = .ok (.ireturn, 1) := by decide +kernel
theorem dX10_keep_0 : decode cX10_keep 0 = .ok (.aload_n 0, 1) := by decide +kernel
theorem dX10_keep_1 : decode cX10_keep 1 = .ok (.getfield 61, 3) := by decide +kernel
theorem dX10_keep_4 : decode cX10_keep 4 = .ok (.iconst 2, 1) := by decide +kernel
theorem dX10_keep_5 : decode cX10_keep 5 = .ok (.if_icmp .lt 6, 3) := by decide +kernel
theorem dX10_keep_8 : decode cX10_keep 8 = .ok (.bipush (-3), 2) := by decide +kernel
theorem dX10_keep_10 : decode cX10_keep 10 = .ok (.ireturn, 1) := by decide +kernel
theorem dX10_keep_11 : decode cX10_keep 11 = .ok (.aload_n 0, 1) := by decide +kernel
theorem dX10_keep_12 : decode cX10_keep 12 = .ok (.getfield 43, 3) := by decide +kernel
theorem dX10_keep_15 : decode cX10_keep 15 = .ok (.aload_n 0, 1) := by decide +kernel
theorem dX10_keep_16 : decode cX10_keep 16 = .ok (.getfield 55, 3) := by decide +kernel
theorem dX10_keep_19 : decode cX10_keep 19 = .ok (.aload_n 0, 1) := by decide +kernel
theorem dX10_keep_20 : decode cX10_keep 20 = .ok (.getfield 61, 3) := by decide +kernel
theorem dX10_keep_23 : decode cX10_keep 23 = .ok (.aaload, 1) := by decide +kernel
theorem dX10_keep_24 : decode cX10_keep 24 = .ok (.invokestatic 161, 3) := by decide +kernel
theorem dX10_keep_27 : decode cX10_keep 27 = .ok (.aload_n 0, 1) := by decide +kernel
theorem dX10_keep_28 : decode cX10_keep 28 = .ok (.getfield 58, 3) := by decide +kernel
theorem dX10_keep_31 : decode cX10_keep 31 = .ok (.aload_n 0, 1) := by decide +kernel
theorem dX10_keep_32 : decode cX10_keep 32 = .ok (.getfield 61, 3) := by decide +kernel
theorem dX10_keep_35 : decode cX10_keep 35 = .ok (.aload_n 0, 1) := by decide +kernel
theorem dX10_keep_36 : decode cX10_keep 36 = .ok (.getfield 47, 3) := by decide +kernel
theorem dX10_keep_39 : decode cX10_keep 39 = .ok (.iastore, 1) := by decide +kernel
theorem dX10_keep_40 : decode cX10_keep 40 = .ok (.aload_n 0, 1) := by decide +kernel
theorem dX10_keep_41 : decode cX10_keep 41 = .ok (.dup, 1) := by decide +kernel
theorem dX10_keep_42 : decode cX10_keep 42 = .ok (.getfield 61, 3) := by decide +kernel
theorem dX10_keep_45 : decode cX10_keep 45 = .ok (.iconst 1, 1) := by decide +kernel
theorem dX10_keep_46 : decode cX10_keep 46 = .ok (.iadd, 1) := by decide +kernel
theorem dX10_keep_47 : decode cX10_keep 47 = .ok (.putfield 61, 3) := by decide +kernel
theorem dX10_keep_50 : decode cX10_keep 50 = .ok (.aload_n 0, 1) := by decide +kernel
theorem dX10_keep_51 : decode cX10_keep 51 = .ok (.getfield 61, 3) := by decide +kernel
theorem dX10_keep_54 : decode cX10_keep 54 = .ok (.ireturn, 1) := by decide +kernel
theorem dX10_back_0 : decode cX10_back 0 = .ok (.aload_n 0, 1) := by decide +kernel
theorem dX10_back_1 : decode cX10_back 1 = .ok (.getfield 61, 3) := by decide +kernel
theorem dX10_back_4 : decode cX10_back 4 = .ok (.ifCond .gt 6, 3) := by decide +kernel
theorem dX10_back_7 : decode cX10_back 7 = .ok (.bipush (-2), 2) := by decide +kernel
theorem dX10_back_9 : decode cX10_back 9 = .ok (.ireturn, 1) := by decide +kernel
theorem dX10_back_10 : decode cX10_back 10 = .ok (.aload_n 0, 1) := by decide +kernel
theorem dX10_back_11 : decode cX10_back 11 = .ok (.dup, 1) := by decide +kernel
theorem dX10_back_12 : decode cX10_back 12 = .ok (.getfield 61, 3) := by decide +kernel
theorem dX10_back_15 : decode cX10_back 15 = .ok (.iconst 1, 1) := by decide +kernel
theorem dX10_back_16 : decode cX10_back 16 = .ok (.isub, 1) := by decide +kernel
theorem dX10_back_17 : decode cX10_back 17 = .ok (.putfield 61, 3) := by decide +kernel
theorem dX10_back_20 : decode cX10_back 20 = .ok (.aload_n 0, 1) := by decide +kernel
theorem dX10_back_21 : decode cX10_back 21 = .ok (.getfield 55, 3) := by decide +kernel
theorem dX10_back_24 : decode cX10_back 24 = .ok (.aload_n 0, 1) := by decide +kernel
theorem dX10_back_25 : decode cX10_back 25 = .ok (.getfield 61, 3) := by decide +kernel
theorem dX10_back_28 : decode cX10_back 28 = .ok (.aaload, 1) := by decide +kernel
theorem dX10_back_29 : decode cX10_back 29 = .ok (.aload_n 0, 1) := by decide +kernel
theorem dX10_back_30 : decode cX10_back 30 = .ok (.getfield 43, 3) := by decide +kernel
theorem dX10_back_33 : decode cX10_back 33 = .ok (.invokestatic 161, 3) := by decide +kernel
theorem dX10_back_36 : decode cX10_back 36 = .ok (.aload_n 0, 1) := by decide +kernel
theorem dX10_back_37 : decode cX10_back 37 = .ok (.aload_n 0, 1) := by decide +kernel
theorem dX10_back_38 : decode cX10_back 38 = .ok (.getfield 58, 3) := by decide +kernel
theorem dX10_back_41 : decode cX10_back 41 = .ok (.aload_n 0, 1) := by decide +kernel
theorem dX10_back_42 : decode cX10_back 42 = .ok (.getfield 61, 3) := by decide +kernel
theorem dX10_back_45 : decode cX10_back 45 = .ok (.iaload, 1) := by decide +kernel
theorem dX10_back_46 : decode cX10_back 46 = .ok (.putfield 47, 3) := by decide +kernel
theorem dX10_back_49 : decode cX10_back 49 = .ok (.aload_n 0, 1) := by decide +kernel
theorem dX10_back_50 : decode cX10_back 50 = .ok (.getfield 61, 3) := by decide +kernel
theorem dX10_back_53 : decode cX10_back 53 = .ok (.ireturn, 1) := by decide +kernel
theorem dX10_count_0 : decode cX10_count 0 = .ok (.iload_n 1, 1) := by decide +kernel
theorem dX10_count_1 : decode cX10_count 1 = .ok (.tableswitch 103 0 7 #[47, 55, 63, 71, 79, 84, 93, 98], 47) := by decide +kernel
theorem dX10_count_48 : decode cX10_count 48 = .ok (.aload_n 0, 1) := by decide +kernel
theorem dX10_count_49 : decode cX10_count 49 = .ok (.getfield 31, 3) := by decide +kernel
theorem dX10_count_52 : decode cX10_count 52 = .ok (.getfield 126, 3) := by decide +kernel
theorem dX10_count_55 : decode cX10_count 55 = .ok (.ireturn, 1) := by decide +kernel
theorem dX10_count_56 : decode cX10_count 56 = .ok (.aload_n 0, 1) := by decide +kernel
theorem dX10_count_57 : decode cX10_count 57 = .ok (.getfield 31, 3) := by decide +kernel
theorem dX10_count_60 : decode cX10_count 60 = .ok (.getfield 136, 3) := by decide +kernel
theorem dX10_count_63 : decode cX10_count 63 = .ok (.ireturn, 1) := by decide +kernel
theorem dX10_count_64 : decode cX10_count 64 = .ok (.aload_n 0, 1) := by decide +kernel
theorem dX10_count_65 : decode cX10_count 65 = .ok (.getfield 31, 3) := by decide +kernel
theorem dX10_count_68 : decode cX10_count 68 = .ok (.getfield 239, 3) := by decide +kernel
theorem dX10_count_71 : decode cX10_count 71 = .ok (.ireturn, 1) := by decide +kernel
theorem dX10_count_72 : decode cX10_count 72 = .ok (.aload_n 0, 1) := by decide +kernel
theorem dX10_count_73 : decode cX10_count 73 = .ok (.getfield 31, 3) := by decide +kernel
theorem dX10_count_76 : decode cX10_count 76 = .ok (.getfield 202, 3) := by decide +kernel
theorem dX10_count_79 : decode cX10_count 79 = .ok (.ireturn, 1) := by decide +kernel
theorem dX10_count_80 : decode cX10_count 80 = .ok (.aload_n 0, 1) := by decide +kernel
theorem dX10_count_81 : decode cX10_count 81 = .ok (.getfield 47, 3) := by decide +kernel
theorem dX10_count_84 : decode cX10_count 84 = .ok (.ireturn, 1) := by decide +kernel
theorem dX10_count_85 : decode cX10_count 85 = .ok (.aload_n 0, 1) := by decide +kernel
theorem dX10_count_86 : decode cX10_count 86 = .ok (.aload_n 0, 1) := by decide +kernel
theorem dX10_count_87 : decode cX10_count 87 = .ok (.getfield 43, 3) := by decide +kernel
theorem dX10_count_90 : decode cX10_count 90 = .ok (.invokevirtual 235, 3) := by decide +kernel
theorem dX10_count_93 : decode cX10_count 93 = .ok (.ireturn, 1) := by decide +kernel
theorem dX10_count_94 : decode cX10_count 94 = .ok (.aload_n 0, 1) := by decide +kernel
theorem dX10_count_95 : decode cX10_count 95 = .ok (.getfield 13, 3) := by decide +kernel
theorem dX10_count_98 : decode cX10_count 98 = .ok (.ireturn, 1) := by decide +kernel
theorem dX10_count_99 : decode cX10_count 99 = .ok (.aload_n 0, 1) := by decide +kernel
theorem dX10_count_100 : decode cX10_count 100 = .ok (.getfield 61, 3) := by decide +kernel
theorem dX10_count_103 : decode cX10_count 103 = .ok (.ireturn, 1) := by decide +kernel
theorem dX10_count_104 : decode cX10_count 104 = .ok (.iconst (-1), 1) := by decide +kernel
theorem dX10_count_105 : decode cX10_count 105 = .ok (.ireturn, 1) := by decide +kernel
theorem dX10_enterBarn_0 : decode cX10_enterBarn 0 = .ok (.aload_n 0, 1) := by decide +kernel
theorem dX10_enterBarn_1 : decode cX10_enterBarn 1 = .ok (.getfield 31, 3) := by decide +kernel
theorem dX10_enterBarn_4 : decode cX10_enterBarn 4 = .ok (.getfield 242, 3) := by decide +kernel
theorem dX10_enterBarn_7 : decode cX10_enterBarn 7 = .ok (.aload_n 0, 1) := by decide +kernel
theorem dX10_enterBarn_8 : decode cX10_enterBarn 8 = .ok (.getfield 43, 3) := by decide +kernel
theorem dX10_enterBarn_11 : decode cX10_enterBarn 11 = .ok (.invokestatic 161, 3) := by decide +kernel
theorem dX10_enterBarn_14 : decode cX10_enterBarn 14 = .ok (.aload_n 0, 1) := by decide +kernel
theorem dX10_enterBarn_15 : decode cX10_enterBarn 15 = .ok (.iconst 0, 1) := by decide +kernel
theorem dX10_enterBarn_16 : decode cX10_enterBarn 16 = .ok (.putfield 47, 3) := by decide +kernel
theorem dX10_enterBarn_19 : decode cX10_enterBarn 19 = .ok (.aload_n 0, 1) := by decide +kernel
theorem dX10_enterBarn_20 : decode cX10_enterBarn 20 = .ok (.iconst 0, 1) := by decide +kernel
theorem dX10_enterBarn_21 : decode cX10_enterBarn 21 = .ok (.putfield 61, 3) := by decide +kernel
theorem dX10_enterBarn_24 : decode cX10_enterBarn 24 = .ok (.return_, 1) := by decide +kernel
theorem dX10_isBin_0 : decode cX10_isBin 0 = .ok (.iload_n 1, 1) := by decide +kernel
theorem dX10_isBin_1 : decode cX10_isBin 1 = .ok (.iconst 0, 1) := by decide +kernel
theorem dX10_isBin_2 : decode cX10_isBin 2 = .ok (.aload_n 0, 1) := by decide +kernel
theorem dX10_isBin_3 : decode cX10_isBin 3 = .ok (.getfield 31, 3) := by decide +kernel
theorem dX10_isBin_6 : decode cX10_isBin 6 = .ok (.getfield 126, 3) := by decide +kernel
theorem dX10_isBin_9 : decode cX10_isBin 9 = .ok (.iconst 1, 1) := by decide +kernel
theorem dX10_isBin_10 : decode cX10_isBin 10 = .ok (.isub, 1) := by decide +kernel
theorem dX10_isBin_11 : decode cX10_isBin 11 = .ok (.invokestatic 118, 3) := by decide +kernel
theorem dX10_isBin_14 : decode cX10_isBin 14 = .ok (.ireturn, 1) := by decide +kernel
theorem dX10_sumOf_0 : decode cX10_sumOf 0 = .ok (.iconst 0, 1) := by decide +kernel
theorem dX10_sumOf_1 : decode cX10_sumOf 1 = .ok (.istore_n 2, 1) := by decide +kernel
theorem dX10_sumOf_2 : decode cX10_sumOf 2 = .ok (.iconst 0, 1) := by decide +kernel
theorem dX10_sumOf_3 : decode cX10_sumOf 3 = .ok (.istore_n 3, 1) := by decide +kernel
theorem dX10_sumOf_4 : decode cX10_sumOf 4 = .ok (.iload_n 3, 1) := by decide +kernel
theorem dX10_sumOf_5 : decode cX10_sumOf 5 = .ok (.aload_n 0, 1) := by decide +kernel
theorem dX10_sumOf_6 : decode cX10_sumOf 6 = .ok (.getfield 31, 3) := by decide +kernel
theorem dX10_sumOf_9 : decode cX10_sumOf 9 = .ok (.getfield 126, 3) := by decide +kernel
theorem dX10_sumOf_12 : decode cX10_sumOf 12 = .ok (.if_icmp .ge 15, 3) := by decide +kernel
theorem dX10_sumOf_15 : decode cX10_sumOf 15 = .ok (.iload_n 2, 1) := by decide +kernel
theorem dX10_sumOf_16 : decode cX10_sumOf 16 = .ok (.aload_n 1, 1) := by decide +kernel
theorem dX10_sumOf_17 : decode cX10_sumOf 17 = .ok (.iload_n 3, 1) := by decide +kernel
theorem dX10_sumOf_18 : decode cX10_sumOf 18 = .ok (.iaload, 1) := by decide +kernel
theorem dX10_sumOf_19 : decode cX10_sumOf 19 = .ok (.iadd, 1) := by decide +kernel
theorem dX10_sumOf_20 : decode cX10_sumOf 20 = .ok (.istore_n 2, 1) := by decide +kernel
theorem dX10_sumOf_21 : decode cX10_sumOf 21 = .ok (.iinc 3 1, 3) := by decide +kernel
theorem dX10_sumOf_24 : decode cX10_sumOf 24 = .ok (.goto (-20), 3) := by decide +kernel
theorem dX10_sumOf_27 : decode cX10_sumOf 27 = .ok (.iload_n 2, 1) := by decide +kernel
theorem dX10_sumOf_28 : decode cX10_sumOf 28 = .ok (.ireturn, 1) := by decide +kernel
theorem dX10_drawTrial_0 : decode cX10_drawTrial 0 = .ok (.iconst 0, 1) := by decide +kernel
theorem dX10_drawTrial_1 : decode cX10_drawTrial 1 = .ok (.istore_n 2, 1) := by decide +kernel
theorem dX10_drawTrial_2 : decode cX10_drawTrial 2 = .ok (.iload_n 2, 1) := by decide +kernel
theorem dX10_drawTrial_3 : decode cX10_drawTrial 3 = .ok (.aload_n 0, 1) := by decide +kernel
theorem dX10_drawTrial_4 : decode cX10_drawTrial 4 = .ok (.getfield 31, 3) := by decide +kernel
theorem dX10_drawTrial_7 : decode cX10_drawTrial 7 = .ok (.getfield 126, 3) := by decide +kernel
theorem dX10_drawTrial_10 : decode cX10_drawTrial 10 = .ok (.if_icmp .ge 43, 3) := by decide +kernel
theorem dX10_drawTrial_13 : decode cX10_drawTrial 13 = .ok (.ldc2_w 245, 3) := by decide +kernel
theorem dX10_drawTrial_16 : decode cX10_drawTrial 16 = .ok (.iload_n 1, 1) := by decide +kernel
theorem dX10_drawTrial_17 : decode cX10_drawTrial 17 = .ok (.i2l, 1) := by decide +kernel
theorem dX10_drawTrial_18 : decode cX10_drawTrial 18 = .ok (.lmul, 1) := by decide +kernel
theorem dX10_drawTrial_19 : decode cX10_drawTrial 19 = .ok (.ldc2_w 247, 3) := by decide +kernel
theorem dX10_drawTrial_22 : decode cX10_drawTrial 22 = .ok (.iload_n 2, 1) := by decide +kernel
theorem dX10_drawTrial_23 : decode cX10_drawTrial 23 = .ok (.i2l, 1) := by decide +kernel
theorem dX10_drawTrial_24 : decode cX10_drawTrial 24 = .ok (.lmul, 1) := by decide +kernel
theorem dX10_drawTrial_25 : decode cX10_drawTrial 25 = .ok (.ladd, 1) := by decide +kernel
theorem dX10_drawTrial_26 : decode cX10_drawTrial 26 = .ok (.lconst 1, 1) := by decide +kernel
theorem dX10_drawTrial_27 : decode cX10_drawTrial 27 = .ok (.ladd, 1) := by decide +kernel
theorem dX10_drawTrial_28 : decode cX10_drawTrial 28 = .ok (.lstore_n 3, 1) := by decide +kernel
theorem dX10_drawTrial_29 : decode cX10_drawTrial 29 = .ok (.aload_n 0, 1) := by decide +kernel
theorem dX10_drawTrial_30 : decode cX10_drawTrial 30 = .ok (.getfield 50, 3) := by decide +kernel
theorem dX10_drawTrial_33 : decode cX10_drawTrial 33 = .ok (.iload_n 2, 1) := by decide +kernel
theorem dX10_drawTrial_34 : decode cX10_drawTrial 34 = .ok (.lload_n 3, 1) := by decide +kernel
theorem dX10_drawTrial_35 : decode cX10_drawTrial 35 = .ok (.lload_n 3, 1) := by decide +kernel
theorem dX10_drawTrial_36 : decode cX10_drawTrial 36 = .ok (.lmul, 1) := by decide +kernel
theorem dX10_drawTrial_37 : decode cX10_drawTrial 37 = .ok (.ldc2_w 249, 3) := by decide +kernel
theorem dX10_drawTrial_40 : decode cX10_drawTrial 40 = .ok (.lrem, 1) := by decide +kernel
theorem dX10_drawTrial_41 : decode cX10_drawTrial 41 = .ok (.ldc2_w 251, 3) := by decide +kernel
theorem dX10_drawTrial_44 : decode cX10_drawTrial 44 = .ok (.lrem, 1) := by decide +kernel
theorem dX10_drawTrial_45 : decode cX10_drawTrial 45 = .ok (.l2i, 1) := by decide +kernel
theorem dX10_drawTrial_46 : decode cX10_drawTrial 46 = .ok (.iastore, 1) := by decide +kernel
theorem dX10_drawTrial_47 : decode cX10_drawTrial 47 = .ok (.iinc 2 1, 3) := by decide +kernel
theorem dX10_drawTrial_50 : decode cX10_drawTrial 50 = .ok (.goto (-48), 3) := by decide +kernel
theorem dX10_drawTrial_53 : decode cX10_drawTrial 53 = .ok (.return_, 1) := by decide +kernel
theorem dX10_within_0 : decode cX10_within 0 = .ok (.iload_n 0, 1) := by decide +kernel
theorem dX10_within_1 : decode cX10_within 1 = .ok (.iload_n 1, 1) := by decide +kernel
theorem dX10_within_2 : decode cX10_within 2 = .ok (.if_icmp .lt 12, 3) := by decide +kernel
theorem dX10_within_5 : decode cX10_within 5 = .ok (.iload_n 0, 1) := by decide +kernel
theorem dX10_within_6 : decode cX10_within 6 = .ok (.iload_n 2, 1) := by decide +kernel
theorem dX10_within_7 : decode cX10_within 7 = .ok (.if_icmp .gt 7, 3) := by decide +kernel
theorem dX10_within_10 : decode cX10_within 10 = .ok (.iconst 1, 1) := by decide +kernel
theorem dX10_within_11 : decode cX10_within 11 = .ok (.goto 4, 3) := by decide +kernel
theorem dX10_within_14 : decode cX10_within 14 = .ok (.iconst 0, 1) := by decide +kernel
theorem dX10_within_15 : decode cX10_within 15 = .ok (.ireturn, 1) := by decide +kernel
theorem dX10_copyBins_0 : decode cX10_copyBins 0 = .ok (.aload_n 0, 1) := by decide +kernel
theorem dX10_copyBins_1 : decode cX10_copyBins 1 = .ok (.iconst 0, 1) := by decide +kernel
theorem dX10_copyBins_2 : decode cX10_copyBins 2 = .ok (.aload_n 1, 1) := by decide +kernel
theorem dX10_copyBins_3 : decode cX10_copyBins 3 = .ok (.iconst 0, 1) := by decide +kernel
theorem dX10_copyBins_4 : decode cX10_copyBins 4 = .ok (.bipush 8, 2) := by decide +kernel
theorem dX10_copyBins_6 : decode cX10_copyBins 6 = .ok (.invokestatic 253, 3) := by decide +kernel
theorem dX10_copyBins_9 : decode cX10_copyBins 9 = .ok (.return_, 1) := by decide +kernel
theorem dX10_swapBins_0 : decode cX10_swapBins 0 = .ok (.aload_n 0, 1) := by decide +kernel
theorem dX10_swapBins_1 : decode cX10_swapBins 1 = .ok (.iload_n 1, 1) := by decide +kernel
theorem dX10_swapBins_2 : decode cX10_swapBins 2 = .ok (.iaload, 1) := by decide +kernel
theorem dX10_swapBins_3 : decode cX10_swapBins 3 = .ok (.istore_n 3, 1) := by decide +kernel
theorem dX10_swapBins_4 : decode cX10_swapBins 4 = .ok (.aload_n 0, 1) := by decide +kernel
theorem dX10_swapBins_5 : decode cX10_swapBins 5 = .ok (.iload_n 1, 1) := by decide +kernel
theorem dX10_swapBins_6 : decode cX10_swapBins 6 = .ok (.aload_n 0, 1) := by decide +kernel
theorem dX10_swapBins_7 : decode cX10_swapBins 7 = .ok (.iload_n 2, 1) := by decide +kernel
theorem dX10_swapBins_8 : decode cX10_swapBins 8 = .ok (.iaload, 1) := by decide +kernel
theorem dX10_swapBins_9 : decode cX10_swapBins 9 = .ok (.iastore, 1) := by decide +kernel
theorem dX10_swapBins_10 : decode cX10_swapBins 10 = .ok (.aload_n 0, 1) := by decide +kernel
theorem dX10_swapBins_11 : decode cX10_swapBins 11 = .ok (.iload_n 2, 1) := by decide +kernel
theorem dX10_swapBins_12 : decode cX10_swapBins 12 = .ok (.iload_n 3, 1) := by decide +kernel
theorem dX10_swapBins_13 : decode cX10_swapBins 13 = .ok (.iastore, 1) := by decide +kernel
theorem dX10_swapBins_14 : decode cX10_swapBins 14 = .ok (.return_, 1) := by decide +kernel
theorem dX10_canPour_0 : decode cX10_canPour 0 = .ok (.aload_n 0, 1) := by decide +kernel
theorem dX10_canPour_1 : decode cX10_canPour 1 = .ok (.iload_n 1, 1) := by decide +kernel
theorem dX10_canPour_2 : decode cX10_canPour 2 = .ok (.iaload, 1) := by decide +kernel
theorem dX10_canPour_3 : decode cX10_canPour 3 = .ok (.iload_n 3, 1) := by decide +kernel
theorem dX10_canPour_4 : decode cX10_canPour 4 = .ok (.if_icmp .lt 18, 3) := by decide +kernel
theorem dX10_canPour_7 : decode cX10_canPour 7 = .ok (.aload_n 0, 1) := by decide +kernel
theorem dX10_canPour_8 : decode cX10_canPour 8 = .ok (.iload_n 2, 1) := by decide +kernel
theorem dX10_canPour_9 : decode cX10_canPour 9 = .ok (.iaload, 1) := by decide +kernel
theorem dX10_canPour_10 : decode cX10_canPour 10 = .ok (.iload_n 3, 1) := by decide +kernel
theorem dX10_canPour_11 : decode cX10_canPour 11 = .ok (.iadd, 1) := by decide +kernel
theorem dX10_canPour_12 : decode cX10_canPour 12 = .ok (.sipush 199, 3) := by decide +kernel
theorem dX10_canPour_15 : decode cX10_canPour 15 = .ok (.if_icmp .gt 7, 3) := by decide +kernel
theorem dX10_canPour_18 : decode cX10_canPour 18 = .ok (.iconst 1, 1) := by decide +kernel
theorem dX10_canPour_19 : decode cX10_canPour 19 = .ok (.goto 4, 3) := by decide +kernel
theorem dX10_canPour_22 : decode cX10_canPour 22 = .ok (.iconst 0, 1) := by decide +kernel
theorem dX10_canPour_23 : decode cX10_canPour 23 = .ok (.ireturn, 1) := by decide +kernel
end
section
theorem dX11_init_0 : decode cX11_init 0 = .ok (.aload_n 0, 1) := by decide +kernel
theorem dX11_init_1 : decode cX11_init 1 = .ok (.invokespecial 1, 3) := by decide +kernel
theorem dX11_init_4 : decode cX11_init 4 = .ok (.aload_n 0, 1) := by decide +kernel
theorem dX11_init_5 : decode cX11_init 5 = .ok (.sipush 300, 3) := by decide +kernel
theorem dX11_init_8 : decode cX11_init 8 = .ok (.newarray .byte, 2) := by decide +kernel
theorem dX11_init_10 : decode cX11_init 10 = .ok (.putfield 7, 3) := by decide +kernel
theorem dX11_init_13 : decode cX11_init 13 = .ok (.aload_n 0, 1) := by decide +kernel
theorem dX11_init_14 : decode cX11_init 14 = .ok (.iconst 2, 1) := by decide +kernel
theorem dX11_init_15 : decode cX11_init 15 = .ok (.newarray .int, 2) := by decide +kernel
theorem dX11_init_17 : decode cX11_init 17 = .ok (.putfield 13, 3) := by decide +kernel
theorem dX11_init_20 : decode cX11_init 20 = .ok (.aload_n 0, 1) := by decide +kernel
theorem dX11_init_21 : decode cX11_init 21 = .ok (.bipush 16, 2) := by decide +kernel
theorem dX11_init_23 : decode cX11_init 23 = .ok (.newarray .int, 2) := by decide +kernel
theorem dX11_init_25 : decode cX11_init 25 = .ok (.putfield 17, 3) := by decide +kernel
theorem dX11_init_28 : decode cX11_init 28 = .ok (.aload_n 0, 1) := by decide +kernel
theorem dX11_init_29 : decode cX11_init 29 = .ok (.bipush 16, 2) := by decide +kernel
theorem dX11_init_31 : decode cX11_init 31 = .ok (.newarray .int, 2) := by decide +kernel
theorem dX11_init_33 : decode cX11_init 33 = .ok (.putfield 20, 3) := by decide +kernel
theorem dX11_init_36 : decode cX11_init 36 = .ok (.aload_n 0, 1) := by decide +kernel
theorem dX11_init_37 : decode cX11_init 37 = .ok (.bipush 6, 2) := by decide +kernel
theorem dX11_init_39 : decode cX11_init 39 = .ok (.newarray .int, 2) := by decide +kernel
theorem dX11_init_41 : decode cX11_init 41 = .ok (.putfield 23, 3) := by decide +kernel
theorem dX11_init_44 : decode cX11_init 44 = .ok (.aload_n 0, 1) := by decide +kernel
theorem dX11_init_45 : decode cX11_init 45 = .ok (.iconst 2, 1) := by decide +kernel
theorem dX11_init_46 : decode cX11_init 46 = .ok (.newarray .int, 2) := by decide +kernel
theorem dX11_init_48 : decode cX11_init 48 = .ok (.putfield 26, 3) := by decide +kernel
theorem dX11_init_51 : decode cX11_init 51 = .ok (.aload_n 0, 1) := by decide +kernel
theorem dX11_init_52 : decode cX11_init 52 = .ok (.bipush 32, 2) := by decide +kernel
theorem dX11_init_54 : decode cX11_init 54 = .ok (.newarray .int, 2) := by decide +kernel
theorem dX11_init_56 : decode cX11_init 56 = .ok (.putfield 29, 3) := by decide +kernel
theorem dX11_init_59 : decode cX11_init 59 = .ok (.aload_n 0, 1) := by decide +kernel
theorem dX11_init_60 : decode cX11_init 60 = .ok (.iconst 2, 1) := by decide +kernel
theorem dX11_init_61 : decode cX11_init 61 = .ok (.newarray .int, 2) := by decide +kernel
theorem dX11_init_63 : decode cX11_init 63 = .ok (.putfield 32, 3) := by decide +kernel
theorem dX11_init_66 : decode cX11_init 66 = .ok (.aload_n 0, 1) := by decide +kernel
theorem dX11_init_67 : decode cX11_init 67 = .ok (.bipush 16, 2) := by decide +kernel
theorem dX11_init_69 : decode cX11_init 69 = .ok (.newarray .int, 2) := by decide +kernel
theorem dX11_init_71 : decode cX11_init 71 = .ok (.putfield 35, 3) := by decide +kernel
theorem dX11_init_74 : decode cX11_init 74 = .ok (.aload_n 0, 1) := by decide +kernel
theorem dX11_init_75 : decode cX11_init 75 = .ok (.bipush 12, 2) := by decide +kernel
theorem dX11_init_77 : decode cX11_init 77 = .ok (.newarray .int, 2) := by decide +kernel
theorem dX11_init_79 : decode cX11_init 79 = .ok (.putfield 38, 3) := by decide +kernel
theorem dX11_init_82 : decode cX11_init 82 = .ok (.aload_n 0, 1) := by decide +kernel
theorem dX11_init_83 : decode cX11_init 83 = .ok (.bipush 12, 2) := by decide +kernel
theorem dX11_init_85 : decode cX11_init 85 = .ok (.newarray .int, 2) := by decide +kernel
theorem dX11_init_87 : decode cX11_init 87 = .ok (.putfield 41, 3) := by decide +kernel
theorem dX11_init_90 : decode cX11_init 90 = .ok (.aload_n 0, 1) := by decide +kernel
theorem dX11_init_91 : decode cX11_init 91 = .ok (.bipush 12, 2) := by decide +kernel
theorem dX11_init_93 : decode cX11_init 93 = .ok (.newarray .boolean, 2) := by decide +kernel
theorem dX11_init_95 : decode cX11_init 95 = .ok (.putfield 44, 3) := by decide +kernel
theorem dX11_init_98 : decode cX11_init 98 = .ok (.aload_n 0, 1) := by decide +kernel
theorem dX11_init_99 : decode cX11_init 99 = .ok (.bipush 8, 2) := by decide +kernel
theorem dX11_init_101 : decode cX11_init 101 = .ok (.newarray .int, 2) := by decide +kernel
theorem dX11_init_103 : decode cX11_init 103 = .ok (.putfield 48, 3) := by decide +kernel
theorem dX11_init_106 : decode cX11_init 106 = .ok (.aload_n 0, 1) := by decide +kernel
theorem dX11_init_107 : decode cX11_init 107 = .ok (.bipush 16, 2) := by decide +kernel
theorem dX11_init_109 : decode cX11_init 109 = .ok (.newarray .int, 2) := by decide +kernel
theorem dX11_init_111 : decode cX11_init 111 = .ok (.putfield 51, 3) := by decide +kernel
theorem dX11_init_114 : decode cX11_init 114 = .ok (.aload_n 0, 1) := by decide +kernel
theorem dX11_init_115 : decode cX11_init 115 = .ok (.iconst 2, 1) := by decide +kernel
theorem dX11_init_116 : decode cX11_init 116 = .ok (.newarray .int, 2) := by decide +kernel
theorem dX11_init_118 : decode cX11_init 118 = .ok (.putfield 54, 3) := by decide +kernel
theorem dX11_init_121 : decode cX11_init 121 = .ok (.aload_n 0, 1) := by decide +kernel
theorem dX11_init_122 : decode cX11_init 122 = .ok (.bipush 8, 2) := by decide +kernel
theorem dX11_init_124 : decode cX11_init 124 = .ok (.newarray .int, 2) := by decide +kernel
theorem dX11_init_126 : decode cX11_init 126 = .ok (.putfield 57, 3) := by decide +kernel
theorem dX11_init_129 : decode cX11_init 129 = .ok (.aload_n 0, 1) := by decide +kernel
theorem dX11_init_130 : decode cX11_init 130 = .ok (.bipush 8, 2) := by decide +kernel
theorem dX11_init_132 : decode cX11_init 132 = .ok (.newarray .int, 2) := by decide +kernel
theorem dX11_init_134 : decode cX11_init 134 = .ok (.putfield 60, 3) := by decide +kernel
theorem dX11_init_137 : decode cX11_init 137 = .ok (.aload_n 0, 1) := by decide +kernel
theorem dX11_init_138 : decode cX11_init 138 = .ok (.iconst 2, 1) := by decide +kernel
theorem dX11_init_139 : decode cX11_init 139 = .ok (.newarray .int, 2) := by decide +kernel
theorem dX11_init_141 : decode cX11_init 141 = .ok (.putfield 63, 3) := by decide +kernel
theorem dX11_init_144 : decode cX11_init 144 = .ok (.aload_n 0, 1) := by decide +kernel
theorem dX11_init_145 : decode cX11_init 145 = .ok (.bipush 8, 2) := by decide +kernel
theorem dX11_init_147 : decode cX11_init 147 = .ok (.newarray .int, 2) := by decide +kernel
theorem dX11_init_149 : decode cX11_init 149 = .ok (.putfield 66, 3) := by decide +kernel
theorem dX11_init_152 : decode cX11_init 152 = .ok (.aload_n 0, 1) := by decide +kernel
theorem dX11_init_153 : decode cX11_init 153 = .ok (.bipush 8, 2) := by decide +kernel
theorem dX11_init_155 : decode cX11_init 155 = .ok (.newarray .int, 2) := by decide +kernel
theorem dX11_init_157 : decode cX11_init 157 = .ok (.putfield 69, 3) := by decide +kernel
theorem dX11_init_160 : decode cX11_init 160 = .ok (.aload_n 0, 1) := by decide +kernel
theorem dX11_init_161 : decode cX11_init 161 = .ok (.iconst 3, 1) := by decide +kernel
theorem dX11_init_162 : decode cX11_init 162 = .ok (.newarray .int, 2) := by decide +kernel
theorem dX11_init_164 : decode cX11_init 164 = .ok (.putfield 72, 3) := by decide +kernel
theorem dX11_init_167 : decode cX11_init 167 = .ok (.aload_n 0, 1) := by decide +kernel
theorem dX11_init_168 : decode cX11_init 168 = .ok (.iconst 2, 1) := by decide +kernel
theorem dX11_init_169 : decode cX11_init 169 = .ok (.newarray .int, 2) := by decide +kernel
theorem dX11_init_171 : decode cX11_init 171 = .ok (.putfield 75, 3) := by decide +kernel
theorem dX11_init_174 : decode cX11_init 174 = .ok (.aload_n 0, 1) := by decide +kernel
theorem dX11_init_175 : decode cX11_init 175 = .ok (.invokevirtual 78, 3) := by decide +kernel
theorem dX11_init_178 : decode cX11_init 178 = .ok (.aload_n 0, 1) := by decide +kernel
theorem dX11_init_179 : decode cX11_init 179 = .ok (.getfield 13, 3) := by decide +kernel
theorem dX11_init_182 : decode cX11_init 182 = .ok (.iconst 1, 1) := by decide +kernel
theorem dX11_init_183 : decode cX11_init 183 = .ok (.iconst 2, 1) := by decide +kernel
theorem dX11_init_184 : decode cX11_init 184 = .ok (.iastore, 1) := by decide +kernel
theorem dX11_init_185 : decode cX11_init 185 = .ok (.aload_n 0, 1) := by decide +kernel
theorem dX11_init_186 : decode cX11_init 186 = .ok (.getfield 17, 3) := by decide +kernel
theorem dX11_init_189 : decode cX11_init 189 = .ok (.bipush 8, 2) := by decide +kernel
theorem dX11_init_191 : decode cX11_init 191 = .ok (.bipush 9, 2) := by decide +kernel
theorem dX11_init_193 : decode cX11_init 193 = .ok (.iastore, 1) := by decide +kernel
theorem dX11_init_194 : decode cX11_init 194 = .ok (.aload_n 0, 1) := by decide +kernel
theorem dX11_init_195 : decode cX11_init 195 = .ok (.getfield 17, 3) := by decide +kernel
theorem dX11_init_198 : decode cX11_init 198 = .ok (.bipush 9, 2) := by decide +kernel
theorem dX11_init_200 : decode cX11_init 200 = .ok (.iconst 0, 1) := by decide +kernel
theorem dX11_init_201 : decode cX11_init 201 = .ok (.iastore, 1) := by decide +kernel
theorem dX11_init_202 : decode cX11_init 202 = .ok (.aload_n 0, 1) := by decide +kernel
theorem dX11_init_203 : decode cX11_init 203 = .ok (.getfield 20, 3) := by decide +kernel
theorem dX11_init_206 : decode cX11_init 206 = .ok (.bipush 8, 2) := by decide +kernel
theorem dX11_init_208 : decode cX11_init 208 = .ok (.iconst 0, 1) := by decide +kernel
theorem dX11_init_209 : decode cX11_init 209 = .ok (.iastore, 1) := by decide +kernel
theorem dX11_init_210 : decode cX11_init 210 = .ok (.aload_n 0, 1) := by decide +kernel
theorem dX11_init_211 : decode cX11_init 211 = .ok (.getfield 20, 3) := by decide +kernel
theorem dX11_init_214 : decode cX11_init 214 = .ok (.bipush 9, 2) := by decide +kernel
theorem dX11_init_216 : decode cX11_init 216 = .ok (.iconst 1, 1) := by decide +kernel
theorem dX11_init_217 : decode cX11_init 217 = .ok (.iastore, 1) := by decide +kernel
theorem dX11_init_218 : decode cX11_init 218 = .ok (.aload_n 0, 1) := by decide +kernel
theorem dX11_init_219 : decode cX11_init 219 = .ok (.invokevirtual 81, 3) := by decide +kernel
theorem dX11_init_222 : decode cX11_init 222 = .ok (.return_, 1) := by decide +kernel
theorem dX11_in_0 : decode cX11_in 0 = .ok (.lload_n 0, 1) := by decide +kernel
theorem dX11_in_1 : decode cX11_in 1 = .ok (.lload_n 2, 1) := by decide +kernel
theorem dX11_in_2 : decode cX11_in 2 = .ok (.lcmp, 1) := by decide +kernel
theorem dX11_in_3 : decode cX11_in 3 = .ok (.ifCond .lt 14, 3) := by decide +kernel
theorem dX11_in_6 : decode cX11_in 6 = .ok (.lload_n 0, 1) := by decide +kernel
theorem dX11_in_7 : decode cX11_in 7 = .ok (.lload 4, 2) := by decide +kernel
theorem dX11_in_9 : decode cX11_in 9 = .ok (.lcmp, 1) := by decide +kernel
theorem dX11_in_10 : decode cX11_in 10 = .ok (.ifCond .gt 7, 3) := by decide +kernel
theorem dX11_in_13 : decode cX11_in 13 = .ok (.iconst 1, 1) := by decide +kernel
theorem dX11_in_14 : decode cX11_in 14 = .ok (.goto 4, 3) := by decide +kernel
theorem dX11_in_17 : decode cX11_in 17 = .ok (.iconst 0, 1) := by decide +kernel
theorem dX11_in_18 : decode cX11_in 18 = .ok (.ireturn, 1) := by decide +kernel
theorem dX11_write_0 : decode cX11_write 0 = .ok (.iload_n 1, 1) := by decide +kernel
theorem dX11_write_1 : decode cX11_write 1 = .ok (.i2l, 1) := by decide +kernel
theorem dX11_write_2 : decode cX11_write 2 = .ok (.lconst 1, 1) := by decide +kernel
theorem dX11_write_3 : decode cX11_write 3 = .ok (.ldc2_w 84, 3) := by decide +kernel
theorem dX11_write_6 : decode cX11_write 6 = .ok (.invokestatic 86, 3) := by decide +kernel
theorem dX11_write_9 : decode cX11_write 9 = .ok (.ifCond .ne 5, 3) := by decide +kernel
theorem dX11_write_12 : decode cX11_write 12 = .ok (.iconst (-1), 1) := by decide +kernel
theorem dX11_write_13 : decode cX11_write 13 = .ok (.ireturn, 1) := by decide +kernel
theorem dX11_write_14 : decode cX11_write 14 = .ok (.aload_n 0, 1) := by decide +kernel
theorem dX11_write_15 : decode cX11_write 15 = .ok (.getfield 90, 3) := by decide +kernel
theorem dX11_write_18 : decode cX11_write 18 = .ok (.iload_n 1, 1) := by decide +kernel
theorem dX11_write_19 : decode cX11_write 19 = .ok (.iadd, 1) := by decide +kernel
theorem dX11_write_20 : decode cX11_write 20 = .ok (.sipush 300, 3) := by decide +kernel
theorem dX11_write_23 : decode cX11_write 23 = .ok (.if_icmp .le 6, 3) := by decide +kernel
theorem dX11_write_26 : decode cX11_write 26 = .ok (.bipush (-3), 2) := by decide +kernel
theorem dX11_write_28 : decode cX11_write 28 = .ok (.ireturn, 1) := by decide +kernel
theorem dX11_write_29 : decode cX11_write 29 = .ok (.iload_n 1, 1) := by decide +kernel
theorem dX11_write_30 : decode cX11_write 30 = .ok (.iconst 1, 1) := by decide +kernel
theorem dX11_write_31 : decode cX11_write 31 = .ok (.isub, 1) := by decide +kernel
theorem dX11_write_32 : decode cX11_write 32 = .ok (.istore 4, 2) := by decide +kernel
theorem dX11_write_34 : decode cX11_write 34 = .ok (.iload 4, 2) := by decide +kernel
theorem dX11_write_36 : decode cX11_write 36 = .ok (.ifCond .lt 37, 3) := by decide +kernel
theorem dX11_write_39 : decode cX11_write 39 = .ok (.aload_n 0, 1) := by decide +kernel
theorem dX11_write_40 : decode cX11_write 40 = .ok (.getfield 7, 3) := by decide +kernel
theorem dX11_write_43 : decode cX11_write 43 = .ok (.aload_n 0, 1) := by decide +kernel
theorem dX11_write_44 : decode cX11_write 44 = .ok (.getfield 90, 3) := by decide +kernel
theorem dX11_write_47 : decode cX11_write 47 = .ok (.lload_n 2, 1) := by decide +kernel
theorem dX11_write_48 : decode cX11_write 48 = .ok (.bipush 8, 2) := by decide +kernel
theorem dX11_write_50 : decode cX11_write 50 = .ok (.iload 4, 2) := by decide +kernel
theorem dX11_write_52 : decode cX11_write 52 = .ok (.imul, 1) := by decide +kernel
theorem dX11_write_53 : decode cX11_write 53 = .ok (.lshr, 1) := by decide +kernel
theorem dX11_write_54 : decode cX11_write 54 = .ok (.l2i, 1) := by decide +kernel
theorem dX11_write_55 : decode cX11_write 55 = .ok (.i2b, 1) := by decide +kernel
theorem dX11_write_56 : decode cX11_write 56 = .ok (.bastore, 1) := by decide +kernel
theorem dX11_write_57 : decode cX11_write 57 = .ok (.aload_n 0, 1) := by decide +kernel
theorem dX11_write_58 : decode cX11_write 58 = .ok (.dup, 1) := by decide +kernel
theorem dX11_write_59 : decode cX11_write 59 = .ok (.getfield 90, 3) := by decide +kernel
theorem dX11_write_62 : decode cX11_write 62 = .ok (.iconst 1, 1) := by decide +kernel
theorem dX11_write_63 : decode cX11_write 63 = .ok (.iadd, 1) := by decide +kernel
theorem dX11_write_64 : decode cX11_write 64 = .ok (.putfield 90, 3) := by decide +kernel
theorem dX11_write_67 : decode cX11_write 67 = .ok (.iinc 4 (-1), 3) := by decide +kernel
theorem dX11_write_70 : decode cX11_write 70 = .ok (.goto (-36), 3) := by decide +kernel
theorem dX11_write_73 : decode cX11_write 73 = .ok (.aload_n 0, 1) := by decide +kernel
theorem dX11_write_74 : decode cX11_write 74 = .ok (.getfield 90, 3) := by decide +kernel
theorem dX11_write_77 : decode cX11_write 77 = .ok (.ireturn, 1) := by decide +kernel
theorem dX11_wipe_0 : decode cX11_wipe 0 = .ok (.aload_n 0, 1) := by decide +kernel
theorem dX11_wipe_1 : decode cX11_wipe 1 = .ok (.getfield 90, 3) := by decide +kernel
theorem dX11_wipe_4 : decode cX11_wipe 4 = .ok (.istore_n 1, 1) := by decide +kernel
theorem dX11_wipe_5 : decode cX11_wipe 5 = .ok (.aload_n 0, 1) := by decide +kernel
theorem dX11_wipe_6 : decode cX11_wipe 6 = .ok (.iconst 0, 1) := by decide +kernel
theorem dX11_wipe_7 : decode cX11_wipe 7 = .ok (.putfield 90, 3) := by decide +kernel
theorem dX11_wipe_10 : decode cX11_wipe 10 = .ok (.iload_n 1, 1) := by decide +kernel
theorem dX11_wipe_11 : decode cX11_wipe 11 = .ok (.ireturn, 1) := by decide +kernel
theorem dX11_number_0 : decode cX11_number 0 = .ok (.iconst 0, 1) := by decide +kernel
theorem dX11_number_1 : decode cX11_number 1 = .ok (.istore_n 1, 1) := by decide +kernel
theorem dX11_number_2 : decode cX11_number 2 = .ok (.iconst 0, 1) := by decide +kernel
theorem dX11_number_3 : decode cX11_number 3 = .ok (.istore_n 2, 1) := by decide +kernel
theorem dX11_number_4 : decode cX11_number 4 = .ok (.aload_n 0, 1) := by decide +kernel
theorem dX11_number_5 : decode cX11_number 5 = .ok (.getfield 94, 3) := by decide +kernel
theorem dX11_number_8 : decode cX11_number 8 = .ok (.aload_n 0, 1) := by decide +kernel
theorem dX11_number_9 : decode cX11_number 9 = .ok (.getfield 90, 3) := by decide +kernel
theorem dX11_number_12 : decode cX11_number 12 = .ok (.if_icmp .ge 68, 3) := by decide +kernel
theorem dX11_number_15 : decode cX11_number 15 = .ok (.aload_n 0, 1) := by decide +kernel
theorem dX11_number_16 : decode cX11_number 16 = .ok (.getfield 7, 3) := by decide +kernel
theorem dX11_number_19 : decode cX11_number 19 = .ok (.aload_n 0, 1) := by decide +kernel
theorem dX11_number_20 : decode cX11_number 20 = .ok (.getfield 94, 3) := by decide +kernel
theorem dX11_number_23 : decode cX11_number 23 = .ok (.baload, 1) := by decide +kernel
theorem dX11_number_24 : decode cX11_number 24 = .ok (.i2l, 1) := by decide +kernel
theorem dX11_number_25 : decode cX11_number 25 = .ok (.ldc2_w 97, 3) := by decide +kernel
theorem dX11_number_28 : decode cX11_number 28 = .ok (.ldc2_w 99, 3) := by decide +kernel
theorem dX11_number_31 : decode cX11_number 31 = .ok (.invokestatic 86, 3) := by decide +kernel
theorem dX11_number_34 : decode cX11_number 34 = .ok (.ifCond .eq 46, 3) := by decide +kernel
theorem dX11_number_37 : decode cX11_number 37 = .ok (.iload_n 2, 1) := by decide +kernel
theorem dX11_number_38 : decode cX11_number 38 = .ok (.iconst 3, 1) := by decide +kernel
theorem dX11_number_39 : decode cX11_number 39 = .ok (.if_icmp .ge 23, 3) := by decide +kernel
theorem dX11_number_42 : decode cX11_number 42 = .ok (.bipush 10, 2) := by decide +kernel
theorem dX11_number_44 : decode cX11_number 44 = .ok (.iload_n 1, 1) := by decide +kernel
theorem dX11_number_45 : decode cX11_number 45 = .ok (.imul, 1) := by decide +kernel
theorem dX11_number_46 : decode cX11_number 46 = .ok (.aload_n 0, 1) := by decide +kernel
theorem dX11_number_47 : decode cX11_number 47 = .ok (.getfield 7, 3) := by decide +kernel
theorem dX11_number_50 : decode cX11_number 50 = .ok (.aload_n 0, 1) := by decide +kernel
theorem dX11_number_51 : decode cX11_number 51 = .ok (.getfield 94, 3) := by decide +kernel
theorem dX11_number_54 : decode cX11_number 54 = .ok (.baload, 1) := by decide +kernel
theorem dX11_number_55 : decode cX11_number 55 = .ok (.iadd, 1) := by decide +kernel
theorem dX11_number_56 : decode cX11_number 56 = .ok (.bipush 48, 2) := by decide +kernel
theorem dX11_number_58 : decode cX11_number 58 = .ok (.isub, 1) := by decide +kernel
theorem dX11_number_59 : decode cX11_number 59 = .ok (.goto 4, 3) := by decide +kernel
theorem dX11_number_62 : decode cX11_number 62 = .ok (.iload_n 1, 1) := by decide +kernel
theorem dX11_number_63 : decode cX11_number 63 = .ok (.istore_n 1, 1) := by decide +kernel
theorem dX11_number_64 : decode cX11_number 64 = .ok (.iinc 2 1, 3) := by decide +kernel
theorem dX11_number_67 : decode cX11_number 67 = .ok (.aload_n 0, 1) := by decide +kernel
theorem dX11_number_68 : decode cX11_number 68 = .ok (.dup, 1) := by decide +kernel
theorem dX11_number_69 : decode cX11_number 69 = .ok (.getfield 94, 3) := by decide +kernel
theorem dX11_number_72 : decode cX11_number 72 = .ok (.iconst 1, 1) := by decide +kernel
theorem dX11_number_73 : decode cX11_number 73 = .ok (.iadd, 1) := by decide +kernel
theorem dX11_number_74 : decode cX11_number 74 = .ok (.putfield 94, 3) := by decide +kernel
theorem dX11_number_77 : decode cX11_number 77 = .ok (.goto (-73), 3) := by decide +kernel
theorem dX11_number_80 : decode cX11_number 80 = .ok (.iload_n 2, 1) := by decide +kernel
theorem dX11_number_81 : decode cX11_number 81 = .ok (.i2l, 1) := by decide +kernel
theorem dX11_number_82 : decode cX11_number 82 = .ok (.lconst 1, 1) := by decide +kernel
theorem dX11_number_83 : decode cX11_number 83 = .ok (.ldc2_w 101, 3) := by decide +kernel
theorem dX11_number_86 : decode cX11_number 86 = .ok (.invokestatic 86, 3) := by decide +kernel
theorem dX11_number_89 : decode cX11_number 89 = .ok (.ifCond .eq 7, 3) := by decide +kernel
theorem dX11_number_92 : decode cX11_number 92 = .ok (.iload_n 1, 1) := by decide +kernel
theorem dX11_number_93 : decode cX11_number 93 = .ok (.goto 4, 3) := by decide +kernel
theorem dX11_number_96 : decode cX11_number 96 = .ok (.iconst (-1), 1) := by decide +kernel
theorem dX11_number_97 : decode cX11_number 97 = .ok (.ireturn, 1) := by decide +kernel
theorem dX11_parts_0 : decode cX11_parts 0 = .ok (.iload_n 0, 1) := by decide +kernel
theorem dX11_parts_1 : decode cX11_parts 1 = .ok (.bipush 98, 2) := by decide +kernel
theorem dX11_parts_3 : decode cX11_parts 3 = .ok (.if_icmp .eq 21, 3) := by decide +kernel
theorem dX11_parts_6 : decode cX11_parts 6 = .ok (.iload_n 0, 1) := by decide +kernel
theorem dX11_parts_7 : decode cX11_parts 7 = .ok (.bipush 114, 2) := by decide +kernel
theorem dX11_parts_9 : decode cX11_parts 9 = .ok (.if_icmp .eq 15, 3) := by decide +kernel
theorem dX11_parts_12 : decode cX11_parts 12 = .ok (.iload_n 0, 1) := by decide +kernel
theorem dX11_parts_13 : decode cX11_parts 13 = .ok (.bipush 119, 2) := by decide +kernel
theorem dX11_parts_15 : decode cX11_parts 15 = .ok (.if_icmp .eq 9, 3) := by decide +kernel
theorem dX11_parts_18 : decode cX11_parts 18 = .ok (.iload_n 0, 1) := by decide +kernel
theorem dX11_parts_19 : decode cX11_parts 19 = .ok (.bipush 99, 2) := by decide +kernel
theorem dX11_parts_21 : decode cX11_parts 21 = .ok (.if_icmp .ne 7, 3) := by decide +kernel
theorem dX11_parts_24 : decode cX11_parts 24 = .ok (.iconst 2, 1) := by decide +kernel
theorem dX11_parts_25 : decode cX11_parts 25 = .ok (.goto 14, 3) := by decide +kernel
theorem dX11_parts_28 : decode cX11_parts 28 = .ok (.iload_n 0, 1) := by decide +kernel
theorem dX11_parts_29 : decode cX11_parts 29 = .ok (.bipush 115, 2) := by decide +kernel
theorem dX11_parts_31 : decode cX11_parts 31 = .ok (.if_icmp .ne 7, 3) := by decide +kernel
theorem dX11_parts_34 : decode cX11_parts 34 = .ok (.iconst 1, 1) := by decide +kernel
theorem dX11_parts_35 : decode cX11_parts 35 = .ok (.goto 4, 3) := by decide +kernel
theorem dX11_parts_38 : decode cX11_parts 38 = .ok (.iconst 0, 1) := by decide +kernel
theorem dX11_parts_39 : decode cX11_parts 39 = .ok (.ireturn, 1) := by decide +kernel
theorem dX11_isItem_0 : decode cX11_isItem 0 = .ok (.aload_n 0, 1) := by decide +kernel
theorem dX11_isItem_1 : decode cX11_isItem 1 = .ok (.getfield 7, 3) := by decide +kernel
theorem dX11_isItem_4 : decode cX11_isItem 4 = .ok (.aload_n 0, 1) := by decide +kernel
theorem dX11_isItem_5 : decode cX11_isItem 5 = .ok (.getfield 94, 3) := by decide +kernel
theorem dX11_isItem_8 : decode cX11_isItem 8 = .ok (.baload, 1) := by decide +kernel
theorem dX11_isItem_9 : decode cX11_isItem 9 = .ok (.istore_n 1, 1) := by decide +kernel
theorem dX11_isItem_10 : decode cX11_isItem 10 = .ok (.aload_n 0, 1) := by decide +kernel
theorem dX11_isItem_11 : decode cX11_isItem 11 = .ok (.dup, 1) := by decide +kernel
theorem dX11_isItem_12 : decode cX11_isItem 12 = .ok (.getfield 94, 3) := by decide +kernel
theorem dX11_isItem_15 : decode cX11_isItem 15 = .ok (.iconst 1, 1) := by decide +kernel
theorem dX11_isItem_16 : decode cX11_isItem 16 = .ok (.iadd, 1) := by decide +kernel
theorem dX11_isItem_17 : decode cX11_isItem 17 = .ok (.putfield 94, 3) := by decide +kernel
theorem dX11_isItem_20 : decode cX11_isItem 20 = .ok (.iload_n 1, 1) := by decide +kernel
theorem dX11_isItem_21 : decode cX11_isItem 21 = .ok (.invokestatic 103, 3) := by decide +kernel
theorem dX11_isItem_24 : decode cX11_isItem 24 = .ok (.istore_n 2, 1) := by decide +kernel
theorem dX11_isItem_25 : decode cX11_isItem 25 = .ok (.iload_n 2, 1) := by decide +kernel
theorem dX11_isItem_26 : decode cX11_isItem 26 = .ok (.ifCond .le 7, 3) := by decide +kernel
theorem dX11_isItem_29 : decode cX11_isItem 29 = .ok (.iconst 1, 1) := by decide +kernel
theorem dX11_isItem_30 : decode cX11_isItem 30 = .ok (.goto 4, 3) := by decide +kernel
theorem dX11_isItem_33 : decode cX11_isItem 33 = .ok (.iconst 0, 1) := by decide +kernel
theorem dX11_isItem_34 : decode cX11_isItem 34 = .ok (.istore_n 3, 1) := by decide +kernel
theorem dX11_isItem_35 : decode cX11_isItem 35 = .ok (.iconst 0, 1) := by decide +kernel
theorem dX11_isItem_36 : decode cX11_isItem 36 = .ok (.istore 4, 2) := by decide +kernel
theorem dX11_isItem_38 : decode cX11_isItem 38 = .ok (.iload 4, 2) := by decide +kernel
theorem dX11_isItem_40 : decode cX11_isItem 40 = .ok (.iload_n 2, 1) := by decide +kernel
theorem dX11_isItem_41 : decode cX11_isItem 41 = .ok (.if_icmp .ge 103, 3) := by decide +kernel
theorem dX11_isItem_44 : decode cX11_isItem 44 = .ok (.iload_n 3, 1) := by decide +kernel
theorem dX11_isItem_45 : decode cX11_isItem 45 = .ok (.ifCond .eq 99, 3) := by decide +kernel
theorem dX11_isItem_48 : decode cX11_isItem 48 = .ok (.iload 4, 2) := by decide +kernel
theorem dX11_isItem_50 : decode cX11_isItem 50 = .ok (.ifCond .eq 28, 3) := by decide +kernel
theorem dX11_isItem_53 : decode cX11_isItem 53 = .ok (.aload_n 0, 1) := by decide +kernel
theorem dX11_isItem_54 : decode cX11_isItem 54 = .ok (.getfield 94, 3) := by decide +kernel
theorem dX11_isItem_57 : decode cX11_isItem 57 = .ok (.aload_n 0, 1) := by decide +kernel
theorem dX11_isItem_58 : decode cX11_isItem 58 = .ok (.getfield 90, 3) := by decide +kernel
theorem dX11_isItem_61 : decode cX11_isItem 61 = .ok (.if_icmp .ge 21, 3) := by decide +kernel
theorem dX11_isItem_64 : decode cX11_isItem 64 = .ok (.aload_n 0, 1) := by decide +kernel
theorem dX11_isItem_65 : decode cX11_isItem 65 = .ok (.getfield 7, 3) := by decide +kernel
theorem dX11_isItem_68 : decode cX11_isItem 68 = .ok (.aload_n 0, 1) := by decide +kernel
theorem dX11_isItem_69 : decode cX11_isItem 69 = .ok (.getfield 94, 3) := by decide +kernel
theorem dX11_isItem_72 : decode cX11_isItem 72 = .ok (.baload, 1) := by decide +kernel
theorem dX11_isItem_73 : decode cX11_isItem 73 = .ok (.bipush 44, 2) := by decide +kernel
theorem dX11_isItem_75 : decode cX11_isItem 75 = .ok (.if_icmp .ne 7, 3) := by decide +kernel
theorem dX11_isItem_78 : decode cX11_isItem 78 = .ok (.iconst 1, 1) := by decide +kernel
theorem dX11_isItem_79 : decode cX11_isItem 79 = .ok (.goto 4, 3) := by decide +kernel
theorem dX11_isItem_82 : decode cX11_isItem 82 = .ok (.iconst 0, 1) := by decide +kernel
theorem dX11_isItem_83 : decode cX11_isItem 83 = .ok (.istore_n 3, 1) := by decide +kernel
theorem dX11_isItem_84 : decode cX11_isItem 84 = .ok (.aload_n 0, 1) := by decide +kernel
theorem dX11_isItem_85 : decode cX11_isItem 85 = .ok (.dup, 1) := by decide +kernel
theorem dX11_isItem_86 : decode cX11_isItem 86 = .ok (.getfield 94, 3) := by decide +kernel
theorem dX11_isItem_89 : decode cX11_isItem 89 = .ok (.iload 4, 2) := by decide +kernel
theorem dX11_isItem_91 : decode cX11_isItem 91 = .ok (.ifCond .ne 7, 3) := by decide +kernel
theorem dX11_isItem_94 : decode cX11_isItem 94 = .ok (.iconst 0, 1) := by decide +kernel
theorem dX11_isItem_95 : decode cX11_isItem 95 = .ok (.goto 4, 3) := by decide +kernel
theorem dX11_isItem_98 : decode cX11_isItem 98 = .ok (.iconst 1, 1) := by decide +kernel
theorem dX11_isItem_99 : decode cX11_isItem 99 = .ok (.iadd, 1) := by decide +kernel
theorem dX11_isItem_100 : decode cX11_isItem 100 = .ok (.putfield 94, 3) := by decide +kernel
theorem dX11_isItem_103 : decode cX11_isItem 103 = .ok (.aload_n 0, 1) := by decide +kernel
theorem dX11_isItem_104 : decode cX11_isItem 104 = .ok (.getfield 75, 3) := by decide +kernel
theorem dX11_isItem_107 : decode cX11_isItem 107 = .ok (.iload 4, 2) := by decide +kernel
theorem dX11_isItem_109 : decode cX11_isItem 109 = .ok (.iload_n 3, 1) := by decide +kernel
theorem dX11_isItem_110 : decode cX11_isItem 110 = .ok (.ifCond .eq 10, 3) := by decide +kernel
theorem dX11_isItem_113 : decode cX11_isItem 113 = .ok (.aload_n 0, 1) := by decide +kernel
theorem dX11_isItem_114 : decode cX11_isItem 114 = .ok (.invokevirtual 107, 3) := by decide +kernel
theorem dX11_isItem_117 : decode cX11_isItem 117 = .ok (.goto 4, 3) := by decide +kernel
theorem dX11_isItem_120 : decode cX11_isItem 120 = .ok (.iconst (-1), 1) := by decide +kernel
theorem dX11_isItem_121 : decode cX11_isItem 121 = .ok (.iastore, 1) := by decide +kernel
theorem dX11_isItem_122 : decode cX11_isItem 122 = .ok (.aload_n 0, 1) := by decide +kernel
theorem dX11_isItem_123 : decode cX11_isItem 123 = .ok (.getfield 75, 3) := by decide +kernel
theorem dX11_isItem_126 : decode cX11_isItem 126 = .ok (.iload 4, 2) := by decide +kernel
theorem dX11_isItem_128 : decode cX11_isItem 128 = .ok (.iaload, 1) := by decide +kernel
theorem dX11_isItem_129 : decode cX11_isItem 129 = .ok (.ifCond .lt 7, 3) := by decide +kernel
theorem dX11_isItem_132 : decode cX11_isItem 132 = .ok (.iconst 1, 1) := by decide +kernel
theorem dX11_isItem_133 : decode cX11_isItem 133 = .ok (.goto 4, 3) := by decide +kernel
theorem dX11_isItem_136 : decode cX11_isItem 136 = .ok (.iconst 0, 1) := by decide +kernel
theorem dX11_isItem_137 : decode cX11_isItem 137 = .ok (.istore_n 3, 1) := by decide +kernel
theorem dX11_isItem_138 : decode cX11_isItem 138 = .ok (.iinc 4 1, 3) := by decide +kernel
theorem dX11_isItem_141 : decode cX11_isItem 141 = .ok (.goto (-103), 3) := by decide +kernel
theorem dX11_isItem_144 : decode cX11_isItem 144 = .ok (.iload_n 3, 1) := by decide +kernel
theorem dX11_isItem_145 : decode cX11_isItem 145 = .ok (.ifCond .eq 32, 3) := by decide +kernel
theorem dX11_isItem_148 : decode cX11_isItem 148 = .ok (.aload_n 0, 1) := by decide +kernel
theorem dX11_isItem_149 : decode cX11_isItem 149 = .ok (.getfield 94, 3) := by decide +kernel
theorem dX11_isItem_152 : decode cX11_isItem 152 = .ok (.aload_n 0, 1) := by decide +kernel
theorem dX11_isItem_153 : decode cX11_isItem 153 = .ok (.getfield 90, 3) := by decide +kernel
theorem dX11_isItem_156 : decode cX11_isItem 156 = .ok (.if_icmp .ge 21, 3) := by decide +kernel
theorem dX11_isItem_159 : decode cX11_isItem 159 = .ok (.aload_n 0, 1) := by decide +kernel
theorem dX11_isItem_160 : decode cX11_isItem 160 = .ok (.getfield 7, 3) := by decide +kernel
theorem dX11_isItem_163 : decode cX11_isItem 163 = .ok (.aload_n 0, 1) := by decide +kernel
theorem dX11_isItem_164 : decode cX11_isItem 164 = .ok (.getfield 94, 3) := by decide +kernel
theorem dX11_isItem_167 : decode cX11_isItem 167 = .ok (.baload, 1) := by decide +kernel
theorem dX11_isItem_168 : decode cX11_isItem 168 = .ok (.bipush 59, 2) := by decide +kernel
theorem dX11_isItem_170 : decode cX11_isItem 170 = .ok (.if_icmp .ne 7, 3) := by decide +kernel
theorem dX11_isItem_173 : decode cX11_isItem 173 = .ok (.iconst 1, 1) := by decide +kernel
theorem dX11_isItem_174 : decode cX11_isItem 174 = .ok (.goto 4, 3) := by decide +kernel
theorem dX11_isItem_177 : decode cX11_isItem 177 = .ok (.iconst 0, 1) := by decide +kernel
theorem dX11_isItem_178 : decode cX11_isItem 178 = .ok (.istore_n 3, 1) := by decide +kernel
theorem dX11_isItem_179 : decode cX11_isItem 179 = .ok (.aload_n 0, 1) := by decide +kernel
theorem dX11_isItem_180 : decode cX11_isItem 180 = .ok (.dup, 1) := by decide +kernel
theorem dX11_isItem_181 : decode cX11_isItem 181 = .ok (.getfield 94, 3) := by decide +kernel
theorem dX11_isItem_184 : decode cX11_isItem 184 = .ok (.iconst 1, 1) := by decide +kernel
theorem dX11_isItem_185 : decode cX11_isItem 185 = .ok (.iadd, 1) := by decide +kernel
theorem dX11_isItem_186 : decode cX11_isItem 186 = .ok (.putfield 94, 3) := by decide +kernel
theorem dX11_isItem_189 : decode cX11_isItem 189 = .ok (.iload_n 3, 1) := by decide +kernel
theorem dX11_isItem_190 : decode cX11_isItem 190 = .ok (.ifCond .eq 15, 3) := by decide +kernel
theorem dX11_isItem_193 : decode cX11_isItem 193 = .ok (.aload_n 0, 1) := by decide +kernel
theorem dX11_isItem_194 : decode cX11_isItem 194 = .ok (.iload_n 1, 1) := by decide +kernel
theorem dX11_isItem_195 : decode cX11_isItem 195 = .ok (.invokevirtual 111, 3) := by decide +kernel
theorem dX11_isItem_198 : decode cX11_isItem 198 = .ok (.ifCond .eq 7, 3) := by decide +kernel
theorem dX11_isItem_201 : decode cX11_isItem 201 = .ok (.iconst 1, 1) := by decide +kernel
theorem dX11_isItem_202 : decode cX11_isItem 202 = .ok (.goto 4, 3) := by decide +kernel
theorem dX11_isItem_205 : decode cX11_isItem 205 = .ok (.iconst 0, 1) := by decide +kernel
theorem dX11_isItem_206 : decode cX11_isItem 206 = .ok (.ireturn, 1) := by decide +kernel
theorem dX11_isGood_0 : decode cX11_isGood 0 = .ok (.iload_n 1, 1) := by decide +kernel
theorem dX11_isGood_1 : decode cX11_isGood 1 = .ok (.bipush 98, 2) := by decide +kernel
theorem dX11_isGood_3 : decode cX11_isGood 3 = .ok (.if_icmp .ne 101, 3) := by decide +kernel
theorem dX11_isGood_6 : decode cX11_isGood 6 = .ok (.aload_n 0, 1) := by decide +kernel
theorem dX11_isGood_7 : decode cX11_isGood 7 = .ok (.getfield 75, 3) := by decide +kernel
theorem dX11_isGood_10 : decode cX11_isGood 10 = .ok (.iconst 0, 1) := by decide +kernel
theorem dX11_isGood_11 : decode cX11_isGood 11 = .ok (.iaload, 1) := by decide +kernel
theorem dX11_isGood_12 : decode cX11_isGood 12 = .ok (.i2l, 1) := by decide +kernel
theorem dX11_isGood_13 : decode cX11_isGood 13 = .ok (.lconst 0, 1) := by decide +kernel
theorem dX11_isGood_14 : decode cX11_isGood 14 = .ok (.ldc2_w 115, 3) := by decide +kernel
theorem dX11_isGood_17 : decode cX11_isGood 17 = .ok (.invokestatic 86, 3) := by decide +kernel
theorem dX11_isGood_20 : decode cX11_isGood 20 = .ok (.ifCond .eq 29, 3) := by decide +kernel
theorem dX11_isGood_23 : decode cX11_isGood 23 = .ok (.aload_n 0, 1) := by decide +kernel
theorem dX11_isGood_24 : decode cX11_isGood 24 = .ok (.getfield 75, 3) := by decide +kernel
theorem dX11_isGood_27 : decode cX11_isGood 27 = .ok (.iconst 1, 1) := by decide +kernel
theorem dX11_isGood_28 : decode cX11_isGood 28 = .ok (.iaload, 1) := by decide +kernel
theorem dX11_isGood_29 : decode cX11_isGood 29 = .ok (.i2l, 1) := by decide +kernel
theorem dX11_isGood_30 : decode cX11_isGood 30 = .ok (.lconst 0, 1) := by decide +kernel
theorem dX11_isGood_31 : decode cX11_isGood 31 = .ok (.lconst 1, 1) := by decide +kernel
theorem dX11_isGood_32 : decode cX11_isGood 32 = .ok (.invokestatic 86, 3) := by decide +kernel
theorem dX11_isGood_35 : decode cX11_isGood 35 = .ok (.ifCond .eq 14, 3) := by decide +kernel
theorem dX11_isGood_38 : decode cX11_isGood 38 = .ok (.aload_n 0, 1) := by decide +kernel
theorem dX11_isGood_39 : decode cX11_isGood 39 = .ok (.getfield 13, 3) := by decide +kernel
theorem dX11_isGood_42 : decode cX11_isGood 42 = .ok (.iconst 1, 1) := by decide +kernel
theorem dX11_isGood_43 : decode cX11_isGood 43 = .ok (.iaload, 1) := by decide +kernel
theorem dX11_isGood_44 : decode cX11_isGood 44 = .ok (.bipush 8, 2) := by decide +kernel
theorem dX11_isGood_46 : decode cX11_isGood 46 = .ok (.if_icmp .ne 5, 3) := by decide +kernel
theorem dX11_isGood_49 : decode cX11_isGood 49 = .ok (.iconst 0, 1) := by decide +kernel
theorem dX11_isGood_50 : decode cX11_isGood 50 = .ok (.ireturn, 1) := by decide +kernel
theorem dX11_isGood_51 : decode cX11_isGood 51 = .ok (.aload_n 0, 1) := by decide +kernel
theorem dX11_isGood_52 : decode cX11_isGood 52 = .ok (.getfield 17, 3) := by decide +kernel
theorem dX11_isGood_55 : decode cX11_isGood 55 = .ok (.bipush 8, 2) := by decide +kernel
theorem dX11_isGood_57 : decode cX11_isGood 57 = .ok (.aload_n 0, 1) := by decide +kernel
theorem dX11_isGood_58 : decode cX11_isGood 58 = .ok (.getfield 13, 3) := by decide +kernel
theorem dX11_isGood_61 : decode cX11_isGood 61 = .ok (.iconst 1, 1) := by decide +kernel
theorem dX11_isGood_62 : decode cX11_isGood 62 = .ok (.iaload, 1) := by decide +kernel
theorem dX11_isGood_63 : decode cX11_isGood 63 = .ok (.iadd, 1) := by decide +kernel
theorem dX11_isGood_64 : decode cX11_isGood 64 = .ok (.aload_n 0, 1) := by decide +kernel
theorem dX11_isGood_65 : decode cX11_isGood 65 = .ok (.getfield 75, 3) := by decide +kernel
theorem dX11_isGood_68 : decode cX11_isGood 68 = .ok (.iconst 0, 1) := by decide +kernel
theorem dX11_isGood_69 : decode cX11_isGood 69 = .ok (.iaload, 1) := by decide +kernel
theorem dX11_isGood_70 : decode cX11_isGood 70 = .ok (.iastore, 1) := by decide +kernel
theorem dX11_isGood_71 : decode cX11_isGood 71 = .ok (.aload_n 0, 1) := by decide +kernel
theorem dX11_isGood_72 : decode cX11_isGood 72 = .ok (.getfield 20, 3) := by decide +kernel
theorem dX11_isGood_75 : decode cX11_isGood 75 = .ok (.bipush 8, 2) := by decide +kernel
theorem dX11_isGood_77 : decode cX11_isGood 77 = .ok (.aload_n 0, 1) := by decide +kernel
theorem dX11_isGood_78 : decode cX11_isGood 78 = .ok (.getfield 13, 3) := by decide +kernel
theorem dX11_isGood_81 : decode cX11_isGood 81 = .ok (.iconst 1, 1) := by decide +kernel
theorem dX11_isGood_82 : decode cX11_isGood 82 = .ok (.iaload, 1) := by decide +kernel
theorem dX11_isGood_83 : decode cX11_isGood 83 = .ok (.iadd, 1) := by decide +kernel
theorem dX11_isGood_84 : decode cX11_isGood 84 = .ok (.aload_n 0, 1) := by decide +kernel
theorem dX11_isGood_85 : decode cX11_isGood 85 = .ok (.getfield 75, 3) := by decide +kernel
theorem dX11_isGood_88 : decode cX11_isGood 88 = .ok (.iconst 1, 1) := by decide +kernel
theorem dX11_isGood_89 : decode cX11_isGood 89 = .ok (.iaload, 1) := by decide +kernel
theorem dX11_isGood_90 : decode cX11_isGood 90 = .ok (.iastore, 1) := by decide +kernel
theorem dX11_isGood_91 : decode cX11_isGood 91 = .ok (.aload_n 0, 1) := by decide +kernel
theorem dX11_isGood_92 : decode cX11_isGood 92 = .ok (.getfield 13, 3) := by decide +kernel
theorem dX11_isGood_95 : decode cX11_isGood 95 = .ok (.iconst 1, 1) := by decide +kernel
theorem dX11_isGood_96 : decode cX11_isGood 96 = .ok (.dup2, 1) := by decide +kernel
theorem dX11_isGood_97 : decode cX11_isGood 97 = .ok (.iaload, 1) := by decide +kernel
theorem dX11_isGood_98 : decode cX11_isGood 98 = .ok (.iconst 1, 1) := by decide +kernel
theorem dX11_isGood_99 : decode cX11_isGood 99 = .ok (.iadd, 1) := by decide +kernel
theorem dX11_isGood_100 : decode cX11_isGood 100 = .ok (.iastore, 1) := by decide +kernel
theorem dX11_isGood_101 : decode cX11_isGood 101 = .ok (.goto 374, 3) := by decide +kernel
theorem dX11_isGood_104 : decode cX11_isGood 104 = .ok (.iload_n 1, 1) := by decide +kernel
theorem dX11_isGood_105 : decode cX11_isGood 105 = .ok (.bipush 115, 2) := by decide +kernel
theorem dX11_isGood_107 : decode cX11_isGood 107 = .ok (.if_icmp .ne 30, 3) := by decide +kernel
theorem dX11_isGood_110 : decode cX11_isGood 110 = .ok (.aload_n 0, 1) := by decide +kernel
theorem dX11_isGood_111 : decode cX11_isGood 111 = .ok (.getfield 23, 3) := by decide +kernel
theorem dX11_isGood_114 : decode cX11_isGood 114 = .ok (.iconst 3, 1) := by decide +kernel
theorem dX11_isGood_115 : decode cX11_isGood 115 = .ok (.aload_n 0, 1) := by decide +kernel
theorem dX11_isGood_116 : decode cX11_isGood 116 = .ok (.getfield 75, 3) := by decide +kernel
theorem dX11_isGood_119 : decode cX11_isGood 119 = .ok (.iconst 0, 1) := by decide +kernel
theorem dX11_isGood_120 : decode cX11_isGood 120 = .ok (.iaload, 1) := by decide +kernel
theorem dX11_isGood_121 : decode cX11_isGood 121 = .ok (.iastore, 1) := by decide +kernel
theorem dX11_isGood_122 : decode cX11_isGood 122 = .ok (.aload_n 0, 1) := by decide +kernel
theorem dX11_isGood_123 : decode cX11_isGood 123 = .ok (.getfield 75, 3) := by decide +kernel
theorem dX11_isGood_126 : decode cX11_isGood 126 = .ok (.iconst 0, 1) := by decide +kernel
theorem dX11_isGood_127 : decode cX11_isGood 127 = .ok (.iaload, 1) := by decide +kernel
theorem dX11_isGood_128 : decode cX11_isGood 128 = .ok (.i2l, 1) := by decide +kernel
theorem dX11_isGood_129 : decode cX11_isGood 129 = .ok (.lconst 0, 1) := by decide +kernel
theorem dX11_isGood_130 : decode cX11_isGood 130 = .ok (.ldc2_w 117, 3) := by decide +kernel
theorem dX11_isGood_133 : decode cX11_isGood 133 = .ok (.invokestatic 86, 3) := by decide +kernel
theorem dX11_isGood_136 : decode cX11_isGood 136 = .ok (.ireturn, 1) := by decide +kernel
theorem dX11_isGood_137 : decode cX11_isGood 137 = .ok (.iload_n 1, 1) := by decide +kernel
theorem dX11_isGood_138 : decode cX11_isGood 138 = .ok (.bipush 114, 2) := by decide +kernel
theorem dX11_isGood_140 : decode cX11_isGood 140 = .ok (.if_icmp .ne 67, 3) := by decide +kernel
theorem dX11_isGood_143 : decode cX11_isGood 143 = .ok (.aload_n 0, 1) := by decide +kernel
theorem dX11_isGood_144 : decode cX11_isGood 144 = .ok (.getfield 23, 3) := by decide +kernel
theorem dX11_isGood_147 : decode cX11_isGood 147 = .ok (.iconst 4, 1) := by decide +kernel
theorem dX11_isGood_148 : decode cX11_isGood 148 = .ok (.aload_n 0, 1) := by decide +kernel
theorem dX11_isGood_149 : decode cX11_isGood 149 = .ok (.getfield 75, 3) := by decide +kernel
theorem dX11_isGood_152 : decode cX11_isGood 152 = .ok (.iconst 0, 1) := by decide +kernel
theorem dX11_isGood_153 : decode cX11_isGood 153 = .ok (.iaload, 1) := by decide +kernel
theorem dX11_isGood_154 : decode cX11_isGood 154 = .ok (.iastore, 1) := by decide +kernel
theorem dX11_isGood_155 : decode cX11_isGood 155 = .ok (.aload_n 0, 1) := by decide +kernel
theorem dX11_isGood_156 : decode cX11_isGood 156 = .ok (.getfield 23, 3) := by decide +kernel
theorem dX11_isGood_159 : decode cX11_isGood 159 = .ok (.iconst 5, 1) := by decide +kernel
theorem dX11_isGood_160 : decode cX11_isGood 160 = .ok (.aload_n 0, 1) := by decide +kernel
theorem dX11_isGood_161 : decode cX11_isGood 161 = .ok (.getfield 75, 3) := by decide +kernel
theorem dX11_isGood_164 : decode cX11_isGood 164 = .ok (.iconst 1, 1) := by decide +kernel
theorem dX11_isGood_165 : decode cX11_isGood 165 = .ok (.iaload, 1) := by decide +kernel
theorem dX11_isGood_166 : decode cX11_isGood 166 = .ok (.iastore, 1) := by decide +kernel
theorem dX11_isGood_167 : decode cX11_isGood 167 = .ok (.aload_n 0, 1) := by decide +kernel
theorem dX11_isGood_168 : decode cX11_isGood 168 = .ok (.getfield 75, 3) := by decide +kernel
theorem dX11_isGood_171 : decode cX11_isGood 171 = .ok (.iconst 0, 1) := by decide +kernel
theorem dX11_isGood_172 : decode cX11_isGood 172 = .ok (.iaload, 1) := by decide +kernel
theorem dX11_isGood_173 : decode cX11_isGood 173 = .ok (.i2l, 1) := by decide +kernel
theorem dX11_isGood_174 : decode cX11_isGood 174 = .ok (.lconst 0, 1) := by decide +kernel
theorem dX11_isGood_175 : decode cX11_isGood 175 = .ok (.ldc2_w 101, 3) := by decide +kernel
theorem dX11_isGood_178 : decode cX11_isGood 178 = .ok (.invokestatic 86, 3) := by decide +kernel
theorem dX11_isGood_181 : decode cX11_isGood 181 = .ok (.ifCond .eq 24, 3) := by decide +kernel
theorem dX11_isGood_184 : decode cX11_isGood 184 = .ok (.aload_n 0, 1) := by decide +kernel
theorem dX11_isGood_185 : decode cX11_isGood 185 = .ok (.getfield 75, 3) := by decide +kernel
theorem dX11_isGood_188 : decode cX11_isGood 188 = .ok (.iconst 1, 1) := by decide +kernel
theorem dX11_isGood_189 : decode cX11_isGood 189 = .ok (.iaload, 1) := by decide +kernel
theorem dX11_isGood_190 : decode cX11_isGood 190 = .ok (.i2l, 1) := by decide +kernel
theorem dX11_isGood_191 : decode cX11_isGood 191 = .ok (.lconst 0, 1) := by decide +kernel
theorem dX11_isGood_192 : decode cX11_isGood 192 = .ok (.ldc2_w 119, 3) := by decide +kernel
theorem dX11_isGood_195 : decode cX11_isGood 195 = .ok (.invokestatic 86, 3) := by decide +kernel
theorem dX11_isGood_198 : decode cX11_isGood 198 = .ok (.ifCond .eq 7, 3) := by decide +kernel
theorem dX11_isGood_201 : decode cX11_isGood 201 = .ok (.iconst 1, 1) := by decide +kernel
theorem dX11_isGood_202 : decode cX11_isGood 202 = .ok (.goto 4, 3) := by decide +kernel
theorem dX11_isGood_205 : decode cX11_isGood 205 = .ok (.iconst 0, 1) := by decide +kernel
theorem dX11_isGood_206 : decode cX11_isGood 206 = .ok (.ireturn, 1) := by decide +kernel
theorem dX11_isGood_207 : decode cX11_isGood 207 = .ok (.iload_n 1, 1) := by decide +kernel
theorem dX11_isGood_208 : decode cX11_isGood 208 = .ok (.bipush 119, 2) := by decide +kernel
theorem dX11_isGood_210 : decode cX11_isGood 210 = .ok (.if_icmp .ne 134, 3) := by decide +kernel
theorem dX11_isGood_213 : decode cX11_isGood 213 = .ok (.aload_n 0, 1) := by decide +kernel
theorem dX11_isGood_214 : decode cX11_isGood 214 = .ok (.getfield 75, 3) := by decide +kernel
theorem dX11_isGood_217 : decode cX11_isGood 217 = .ok (.iconst 0, 1) := by decide +kernel
theorem dX11_isGood_218 : decode cX11_isGood 218 = .ok (.iaload, 1) := by decide +kernel
theorem dX11_isGood_219 : decode cX11_isGood 219 = .ok (.i2l, 1) := by decide +kernel
theorem dX11_isGood_220 : decode cX11_isGood 220 = .ok (.lconst 0, 1) := by decide +kernel
theorem dX11_isGood_221 : decode cX11_isGood 221 = .ok (.aload_n 0, 1) := by decide +kernel
theorem dX11_isGood_222 : decode cX11_isGood 222 = .ok (.getfield 13, 3) := by decide +kernel
theorem dX11_isGood_225 : decode cX11_isGood 225 = .ok (.iconst 1, 1) := by decide +kernel
theorem dX11_isGood_226 : decode cX11_isGood 226 = .ok (.iaload, 1) := by decide +kernel
theorem dX11_isGood_227 : decode cX11_isGood 227 = .ok (.iconst 1, 1) := by decide +kernel
theorem dX11_isGood_228 : decode cX11_isGood 228 = .ok (.isub, 1) := by decide +kernel
theorem dX11_isGood_229 : decode cX11_isGood 229 = .ok (.i2l, 1) := by decide +kernel
theorem dX11_isGood_230 : decode cX11_isGood 230 = .ok (.invokestatic 86, 3) := by decide +kernel
theorem dX11_isGood_233 : decode cX11_isGood 233 = .ok (.ifCond .eq 52, 3) := by decide +kernel
theorem dX11_isGood_236 : decode cX11_isGood 236 = .ok (.aload_n 0, 1) := by decide +kernel
theorem dX11_isGood_237 : decode cX11_isGood 237 = .ok (.getfield 75, 3) := by decide +kernel
theorem dX11_isGood_240 : decode cX11_isGood 240 = .ok (.iconst 1, 1) := by decide +kernel
theorem dX11_isGood_241 : decode cX11_isGood 241 = .ok (.iaload, 1) := by decide +kernel
theorem dX11_isGood_242 : decode cX11_isGood 242 = .ok (.i2l, 1) := by decide +kernel
theorem dX11_isGood_243 : decode cX11_isGood 243 = .ok (.lconst 0, 1) := by decide +kernel
theorem dX11_isGood_244 : decode cX11_isGood 244 = .ok (.aload_n 0, 1) := by decide +kernel
theorem dX11_isGood_245 : decode cX11_isGood 245 = .ok (.getfield 13, 3) := by decide +kernel
theorem dX11_isGood_248 : decode cX11_isGood 248 = .ok (.iconst 1, 1) := by decide +kernel
theorem dX11_isGood_249 : decode cX11_isGood 249 = .ok (.iaload, 1) := by decide +kernel
theorem dX11_isGood_250 : decode cX11_isGood 250 = .ok (.iconst 1, 1) := by decide +kernel
theorem dX11_isGood_251 : decode cX11_isGood 251 = .ok (.isub, 1) := by decide +kernel
theorem dX11_isGood_252 : decode cX11_isGood 252 = .ok (.i2l, 1) := by decide +kernel
theorem dX11_isGood_253 : decode cX11_isGood 253 = .ok (.invokestatic 86, 3) := by decide +kernel
theorem dX11_isGood_256 : decode cX11_isGood 256 = .ok (.ifCond .eq 29, 3) := by decide +kernel
theorem dX11_isGood_259 : decode cX11_isGood 259 = .ok (.aload_n 0, 1) := by decide +kernel
theorem dX11_isGood_260 : decode cX11_isGood 260 = .ok (.getfield 75, 3) := by decide +kernel
theorem dX11_isGood_263 : decode cX11_isGood 263 = .ok (.iconst 0, 1) := by decide +kernel
theorem dX11_isGood_264 : decode cX11_isGood 264 = .ok (.iaload, 1) := by decide +kernel
theorem dX11_isGood_265 : decode cX11_isGood 265 = .ok (.aload_n 0, 1) := by decide +kernel
theorem dX11_isGood_266 : decode cX11_isGood 266 = .ok (.getfield 75, 3) := by decide +kernel
theorem dX11_isGood_269 : decode cX11_isGood 269 = .ok (.iconst 1, 1) := by decide +kernel
theorem dX11_isGood_270 : decode cX11_isGood 270 = .ok (.iaload, 1) := by decide +kernel
theorem dX11_isGood_271 : decode cX11_isGood 271 = .ok (.if_icmp .eq 14, 3) := by decide +kernel
theorem dX11_isGood_274 : decode cX11_isGood 274 = .ok (.aload_n 0, 1) := by decide +kernel
theorem dX11_isGood_275 : decode cX11_isGood 275 = .ok (.getfield 26, 3) := by decide +kernel
theorem dX11_isGood_278 : decode cX11_isGood 278 = .ok (.iconst 1, 1) := by decide +kernel
theorem dX11_isGood_279 : decode cX11_isGood 279 = .ok (.iaload, 1) := by decide +kernel
theorem dX11_isGood_280 : decode cX11_isGood 280 = .ok (.bipush 8, 2) := by decide +kernel
theorem dX11_isGood_282 : decode cX11_isGood 282 = .ok (.if_icmp .ne 5, 3) := by decide +kernel
theorem dX11_isGood_285 : decode cX11_isGood 285 = .ok (.iconst 0, 1) := by decide +kernel
theorem dX11_isGood_286 : decode cX11_isGood 286 = .ok (.ireturn, 1) := by decide +kernel
theorem dX11_isGood_287 : decode cX11_isGood 287 = .ok (.aload_n 0, 1) := by decide +kernel
theorem dX11_isGood_288 : decode cX11_isGood 288 = .ok (.getfield 29, 3) := by decide +kernel
theorem dX11_isGood_291 : decode cX11_isGood 291 = .ok (.bipush 16, 2) := by decide +kernel
theorem dX11_isGood_293 : decode cX11_isGood 293 = .ok (.iconst 2, 1) := by decide +kernel
theorem dX11_isGood_294 : decode cX11_isGood 294 = .ok (.aload_n 0, 1) := by decide +kernel
theorem dX11_isGood_295 : decode cX11_isGood 295 = .ok (.getfield 26, 3) := by decide +kernel
theorem dX11_isGood_298 : decode cX11_isGood 298 = .ok (.iconst 1, 1) := by decide +kernel
theorem dX11_isGood_299 : decode cX11_isGood 299 = .ok (.iaload, 1) := by decide +kernel
theorem dX11_isGood_300 : decode cX11_isGood 300 = .ok (.imul, 1) := by decide +kernel
theorem dX11_isGood_301 : decode cX11_isGood 301 = .ok (.iadd, 1) := by decide +kernel
theorem dX11_isGood_302 : decode cX11_isGood 302 = .ok (.aload_n 0, 1) := by decide +kernel
theorem dX11_isGood_303 : decode cX11_isGood 303 = .ok (.getfield 75, 3) := by decide +kernel
theorem dX11_isGood_306 : decode cX11_isGood 306 = .ok (.iconst 0, 1) := by decide +kernel
theorem dX11_isGood_307 : decode cX11_isGood 307 = .ok (.iaload, 1) := by decide +kernel
theorem dX11_isGood_308 : decode cX11_isGood 308 = .ok (.iastore, 1) := by decide +kernel
theorem dX11_isGood_309 : decode cX11_isGood 309 = .ok (.aload_n 0, 1) := by decide +kernel
theorem dX11_isGood_310 : decode cX11_isGood 310 = .ok (.getfield 29, 3) := by decide +kernel
theorem dX11_isGood_313 : decode cX11_isGood 313 = .ok (.bipush 17, 2) := by decide +kernel
theorem dX11_isGood_315 : decode cX11_isGood 315 = .ok (.iconst 2, 1) := by decide +kernel
theorem dX11_isGood_316 : decode cX11_isGood 316 = .ok (.aload_n 0, 1) := by decide +kernel
theorem dX11_isGood_317 : decode cX11_isGood 317 = .ok (.getfield 26, 3) := by decide +kernel
theorem dX11_isGood_320 : decode cX11_isGood 320 = .ok (.iconst 1, 1) := by decide +kernel
theorem dX11_isGood_321 : decode cX11_isGood 321 = .ok (.iaload, 1) := by decide +kernel
theorem dX11_isGood_322 : decode cX11_isGood 322 = .ok (.imul, 1) := by decide +kernel
theorem dX11_isGood_323 : decode cX11_isGood 323 = .ok (.iadd, 1) := by decide +kernel
theorem dX11_isGood_324 : decode cX11_isGood 324 = .ok (.aload_n 0, 1) := by decide +kernel
theorem dX11_isGood_325 : decode cX11_isGood 325 = .ok (.getfield 75, 3) := by decide +kernel
theorem dX11_isGood_328 : decode cX11_isGood 328 = .ok (.iconst 1, 1) := by decide +kernel
theorem dX11_isGood_329 : decode cX11_isGood 329 = .ok (.iaload, 1) := by decide +kernel
theorem dX11_isGood_330 : decode cX11_isGood 330 = .ok (.iastore, 1) := by decide +kernel
theorem dX11_isGood_331 : decode cX11_isGood 331 = .ok (.aload_n 0, 1) := by decide +kernel
theorem dX11_isGood_332 : decode cX11_isGood 332 = .ok (.getfield 26, 3) := by decide +kernel
theorem dX11_isGood_335 : decode cX11_isGood 335 = .ok (.iconst 1, 1) := by decide +kernel
theorem dX11_isGood_336 : decode cX11_isGood 336 = .ok (.dup2, 1) := by decide +kernel
theorem dX11_isGood_337 : decode cX11_isGood 337 = .ok (.iaload, 1) := by decide +kernel
theorem dX11_isGood_338 : decode cX11_isGood 338 = .ok (.iconst 1, 1) := by decide +kernel
theorem dX11_isGood_339 : decode cX11_isGood 339 = .ok (.iadd, 1) := by decide +kernel
theorem dX11_isGood_340 : decode cX11_isGood 340 = .ok (.iastore, 1) := by decide +kernel
theorem dX11_isGood_341 : decode cX11_isGood 341 = .ok (.goto 134, 3) := by decide +kernel
theorem dX11_isGood_344 : decode cX11_isGood 344 = .ok (.aload_n 0, 1) := by decide +kernel
theorem dX11_isGood_345 : decode cX11_isGood 345 = .ok (.getfield 32, 3) := by decide +kernel
theorem dX11_isGood_348 : decode cX11_isGood 348 = .ok (.iconst 1, 1) := by decide +kernel
theorem dX11_isGood_349 : decode cX11_isGood 349 = .ok (.iaload, 1) := by decide +kernel
theorem dX11_isGood_350 : decode cX11_isGood 350 = .ok (.ifCond .ne 7, 3) := by decide +kernel
theorem dX11_isGood_353 : decode cX11_isGood 353 = .ok (.iconst 0, 1) := by decide +kernel
theorem dX11_isGood_354 : decode cX11_isGood 354 = .ok (.goto 19, 3) := by decide +kernel
theorem dX11_isGood_357 : decode cX11_isGood 357 = .ok (.aload_n 0, 1) := by decide +kernel
theorem dX11_isGood_358 : decode cX11_isGood 358 = .ok (.getfield 35, 3) := by decide +kernel
theorem dX11_isGood_361 : decode cX11_isGood 361 = .ok (.bipush 6, 2) := by decide +kernel
theorem dX11_isGood_363 : decode cX11_isGood 363 = .ok (.iconst 2, 1) := by decide +kernel
theorem dX11_isGood_364 : decode cX11_isGood 364 = .ok (.aload_n 0, 1) := by decide +kernel
theorem dX11_isGood_365 : decode cX11_isGood 365 = .ok (.getfield 32, 3) := by decide +kernel
theorem dX11_isGood_368 : decode cX11_isGood 368 = .ok (.iconst 1, 1) := by decide +kernel
theorem dX11_isGood_369 : decode cX11_isGood 369 = .ok (.iaload, 1) := by decide +kernel
theorem dX11_isGood_370 : decode cX11_isGood 370 = .ok (.imul, 1) := by decide +kernel
theorem dX11_isGood_371 : decode cX11_isGood 371 = .ok (.iadd, 1) := by decide +kernel
theorem dX11_isGood_372 : decode cX11_isGood 372 = .ok (.iaload, 1) := by decide +kernel
theorem dX11_isGood_373 : decode cX11_isGood 373 = .ok (.istore_n 2, 1) := by decide +kernel
theorem dX11_isGood_374 : decode cX11_isGood 374 = .ok (.aload_n 0, 1) := by decide +kernel
theorem dX11_isGood_375 : decode cX11_isGood 375 = .ok (.getfield 75, 3) := by decide +kernel
theorem dX11_isGood_378 : decode cX11_isGood 378 = .ok (.iconst 0, 1) := by decide +kernel
theorem dX11_isGood_379 : decode cX11_isGood 379 = .ok (.iaload, 1) := by decide +kernel
theorem dX11_isGood_380 : decode cX11_isGood 380 = .ok (.i2l, 1) := by decide +kernel
theorem dX11_isGood_381 : decode cX11_isGood 381 = .ok (.iload_n 2, 1) := by decide +kernel
theorem dX11_isGood_382 : decode cX11_isGood 382 = .ok (.i2l, 1) := by decide +kernel
theorem dX11_isGood_383 : decode cX11_isGood 383 = .ok (.ldc2_w 119, 3) := by decide +kernel
theorem dX11_isGood_386 : decode cX11_isGood 386 = .ok (.invokestatic 86, 3) := by decide +kernel
theorem dX11_isGood_389 : decode cX11_isGood 389 = .ok (.ifCond .eq 30, 3) := by decide +kernel
theorem dX11_isGood_392 : decode cX11_isGood 392 = .ok (.aload_n 0, 1) := by decide +kernel
theorem dX11_isGood_393 : decode cX11_isGood 393 = .ok (.getfield 75, 3) := by decide +kernel
theorem dX11_isGood_396 : decode cX11_isGood 396 = .ok (.iconst 1, 1) := by decide +kernel
theorem dX11_isGood_397 : decode cX11_isGood 397 = .ok (.iaload, 1) := by decide +kernel
theorem dX11_isGood_398 : decode cX11_isGood 398 = .ok (.i2l, 1) := by decide +kernel
theorem dX11_isGood_399 : decode cX11_isGood 399 = .ok (.lconst 1, 1) := by decide +kernel
theorem dX11_isGood_400 : decode cX11_isGood 400 = .ok (.ldc2_w 121, 3) := by decide +kernel
theorem dX11_isGood_403 : decode cX11_isGood 403 = .ok (.invokestatic 86, 3) := by decide +kernel
theorem dX11_isGood_406 : decode cX11_isGood 406 = .ok (.ifCond .eq 13, 3) := by decide +kernel
theorem dX11_isGood_409 : decode cX11_isGood 409 = .ok (.aload_n 0, 1) := by decide +kernel
theorem dX11_isGood_410 : decode cX11_isGood 410 = .ok (.getfield 32, 3) := by decide +kernel
theorem dX11_isGood_413 : decode cX11_isGood 413 = .ok (.iconst 1, 1) := by decide +kernel
theorem dX11_isGood_414 : decode cX11_isGood 414 = .ok (.iaload, 1) := by decide +kernel
theorem dX11_isGood_415 : decode cX11_isGood 415 = .ok (.iconst 4, 1) := by decide +kernel
theorem dX11_isGood_416 : decode cX11_isGood 416 = .ok (.if_icmp .ne 5, 3) := by decide +kernel
theorem dX11_isGood_419 : decode cX11_isGood 419 = .ok (.iconst 0, 1) := by decide +kernel
theorem dX11_isGood_420 : decode cX11_isGood 420 = .ok (.ireturn, 1) := by decide +kernel
theorem dX11_isGood_421 : decode cX11_isGood 421 = .ok (.aload_n 0, 1) := by decide +kernel
theorem dX11_isGood_422 : decode cX11_isGood 422 = .ok (.getfield 35, 3) := by decide +kernel
theorem dX11_isGood_425 : decode cX11_isGood 425 = .ok (.bipush 8, 2) := by decide +kernel
theorem dX11_isGood_427 : decode cX11_isGood 427 = .ok (.iconst 2, 1) := by decide +kernel
theorem dX11_isGood_428 : decode cX11_isGood 428 = .ok (.aload_n 0, 1) := by decide +kernel
theorem dX11_isGood_429 : decode cX11_isGood 429 = .ok (.getfield 32, 3) := by decide +kernel
theorem dX11_isGood_432 : decode cX11_isGood 432 = .ok (.iconst 1, 1) := by decide +kernel
theorem dX11_isGood_433 : decode cX11_isGood 433 = .ok (.iaload, 1) := by decide +kernel
theorem dX11_isGood_434 : decode cX11_isGood 434 = .ok (.imul, 1) := by decide +kernel
theorem dX11_isGood_435 : decode cX11_isGood 435 = .ok (.iadd, 1) := by decide +kernel
theorem dX11_isGood_436 : decode cX11_isGood 436 = .ok (.aload_n 0, 1) := by decide +kernel
theorem dX11_isGood_437 : decode cX11_isGood 437 = .ok (.getfield 75, 3) := by decide +kernel
theorem dX11_isGood_440 : decode cX11_isGood 440 = .ok (.iconst 0, 1) := by decide +kernel
theorem dX11_isGood_441 : decode cX11_isGood 441 = .ok (.iaload, 1) := by decide +kernel
theorem dX11_isGood_442 : decode cX11_isGood 442 = .ok (.iastore, 1) := by decide +kernel
theorem dX11_isGood_443 : decode cX11_isGood 443 = .ok (.aload_n 0, 1) := by decide +kernel
theorem dX11_isGood_444 : decode cX11_isGood 444 = .ok (.getfield 35, 3) := by decide +kernel
theorem dX11_isGood_447 : decode cX11_isGood 447 = .ok (.bipush 9, 2) := by decide +kernel
theorem dX11_isGood_449 : decode cX11_isGood 449 = .ok (.iconst 2, 1) := by decide +kernel
theorem dX11_isGood_450 : decode cX11_isGood 450 = .ok (.aload_n 0, 1) := by decide +kernel
theorem dX11_isGood_451 : decode cX11_isGood 451 = .ok (.getfield 32, 3) := by decide +kernel
theorem dX11_isGood_454 : decode cX11_isGood 454 = .ok (.iconst 1, 1) := by decide +kernel
theorem dX11_isGood_455 : decode cX11_isGood 455 = .ok (.iaload, 1) := by decide +kernel
theorem dX11_isGood_456 : decode cX11_isGood 456 = .ok (.imul, 1) := by decide +kernel
theorem dX11_isGood_457 : decode cX11_isGood 457 = .ok (.iadd, 1) := by decide +kernel
theorem dX11_isGood_458 : decode cX11_isGood 458 = .ok (.aload_n 0, 1) := by decide +kernel
theorem dX11_isGood_459 : decode cX11_isGood 459 = .ok (.getfield 75, 3) := by decide +kernel
theorem dX11_isGood_462 : decode cX11_isGood 462 = .ok (.iconst 1, 1) := by decide +kernel
theorem dX11_isGood_463 : decode cX11_isGood 463 = .ok (.iaload, 1) := by decide +kernel
theorem dX11_isGood_464 : decode cX11_isGood 464 = .ok (.iastore, 1) := by decide +kernel
theorem dX11_isGood_465 : decode cX11_isGood 465 = .ok (.aload_n 0, 1) := by decide +kernel
theorem dX11_isGood_466 : decode cX11_isGood 466 = .ok (.getfield 32, 3) := by decide +kernel
theorem dX11_isGood_469 : decode cX11_isGood 469 = .ok (.iconst 1, 1) := by decide +kernel
theorem dX11_isGood_470 : decode cX11_isGood 470 = .ok (.dup2, 1) := by decide +kernel
theorem dX11_isGood_471 : decode cX11_isGood 471 = .ok (.iaload, 1) := by decide +kernel
theorem dX11_isGood_472 : decode cX11_isGood 472 = .ok (.iconst 1, 1) := by decide +kernel
theorem dX11_isGood_473 : decode cX11_isGood 473 = .ok (.iadd, 1) := by decide +kernel
theorem dX11_isGood_474 : decode cX11_isGood 474 = .ok (.iastore, 1) := by decide +kernel
theorem dX11_isGood_475 : decode cX11_isGood 475 = .ok (.iconst 1, 1) := by decide +kernel
theorem dX11_isGood_476 : decode cX11_isGood 476 = .ok (.ireturn, 1) := by decide +kernel
theorem dX11_begins_0 : decode cX11_begins 0 = .ok (.aload_n 0, 1) := by decide +kernel
theorem dX11_begins_1 : decode cX11_begins 1 = .ok (.getfield 13, 3) := by decide +kernel
theorem dX11_begins_4 : decode cX11_begins 4 = .ok (.iconst 1, 1) := by decide +kernel
theorem dX11_begins_5 : decode cX11_begins 5 = .ok (.iconst 0, 1) := by decide +kernel
theorem dX11_begins_6 : decode cX11_begins 6 = .ok (.iastore, 1) := by decide +kernel
theorem dX11_begins_7 : decode cX11_begins 7 = .ok (.aload_n 0, 1) := by decide +kernel
theorem dX11_begins_8 : decode cX11_begins 8 = .ok (.getfield 23, 3) := by decide +kernel
theorem dX11_begins_11 : decode cX11_begins 11 = .ok (.iconst 3, 1) := by decide +kernel
theorem dX11_begins_12 : decode cX11_begins 12 = .ok (.iconst 0, 1) := by decide +kernel
theorem dX11_begins_13 : decode cX11_begins 13 = .ok (.iastore, 1) := by decide +kernel
theorem dX11_begins_14 : decode cX11_begins 14 = .ok (.aload_n 0, 1) := by decide +kernel
theorem dX11_begins_15 : decode cX11_begins 15 = .ok (.getfield 23, 3) := by decide +kernel
theorem dX11_begins_18 : decode cX11_begins 18 = .ok (.iconst 4, 1) := by decide +kernel
theorem dX11_begins_19 : decode cX11_begins 19 = .ok (.iconst 0, 1) := by decide +kernel
theorem dX11_begins_20 : decode cX11_begins 20 = .ok (.iastore, 1) := by decide +kernel
theorem dX11_begins_21 : decode cX11_begins 21 = .ok (.aload_n 0, 1) := by decide +kernel
theorem dX11_begins_22 : decode cX11_begins 22 = .ok (.getfield 23, 3) := by decide +kernel
theorem dX11_begins_25 : decode cX11_begins 25 = .ok (.iconst 5, 1) := by decide +kernel
theorem dX11_begins_26 : decode cX11_begins 26 = .ok (.iconst 0, 1) := by decide +kernel
theorem dX11_begins_27 : decode cX11_begins 27 = .ok (.iastore, 1) := by decide +kernel
theorem dX11_begins_28 : decode cX11_begins 28 = .ok (.aload_n 0, 1) := by decide +kernel
theorem dX11_begins_29 : decode cX11_begins 29 = .ok (.getfield 26, 3) := by decide +kernel
theorem dX11_begins_32 : decode cX11_begins 32 = .ok (.iconst 1, 1) := by decide +kernel
theorem dX11_begins_33 : decode cX11_begins 33 = .ok (.iconst 0, 1) := by decide +kernel
theorem dX11_begins_34 : decode cX11_begins 34 = .ok (.iastore, 1) := by decide +kernel
theorem dX11_begins_35 : decode cX11_begins 35 = .ok (.aload_n 0, 1) := by decide +kernel
theorem dX11_begins_36 : decode cX11_begins 36 = .ok (.getfield 32, 3) := by decide +kernel
theorem dX11_begins_39 : decode cX11_begins 39 = .ok (.iconst 1, 1) := by decide +kernel
theorem dX11_begins_40 : decode cX11_begins 40 = .ok (.iconst 0, 1) := by decide +kernel
theorem dX11_begins_41 : decode cX11_begins 41 = .ok (.iastore, 1) := by decide +kernel
theorem dX11_begins_42 : decode cX11_begins 42 = .ok (.return_, 1) := by decide +kernel
theorem dX11_takes_0 : decode cX11_takes 0 = .ok (.aload_n 0, 1) := by decide +kernel
theorem dX11_takes_1 : decode cX11_takes 1 = .ok (.getfield 13, 3) := by decide +kernel
theorem dX11_takes_4 : decode cX11_takes 4 = .ok (.iconst 0, 1) := by decide +kernel
theorem dX11_takes_5 : decode cX11_takes 5 = .ok (.aload_n 0, 1) := by decide +kernel
theorem dX11_takes_6 : decode cX11_takes 6 = .ok (.getfield 13, 3) := by decide +kernel
theorem dX11_takes_9 : decode cX11_takes 9 = .ok (.iconst 1, 1) := by decide +kernel
theorem dX11_takes_10 : decode cX11_takes 10 = .ok (.iaload, 1) := by decide +kernel
theorem dX11_takes_11 : decode cX11_takes 11 = .ok (.iastore, 1) := by decide +kernel
theorem dX11_takes_12 : decode cX11_takes 12 = .ok (.aload_n 0, 1) := by decide +kernel
theorem dX11_takes_13 : decode cX11_takes 13 = .ok (.getfield 26, 3) := by decide +kernel
theorem dX11_takes_16 : decode cX11_takes 16 = .ok (.iconst 0, 1) := by decide +kernel
theorem dX11_takes_17 : decode cX11_takes 17 = .ok (.aload_n 0, 1) := by decide +kernel
theorem dX11_takes_18 : decode cX11_takes 18 = .ok (.getfield 26, 3) := by decide +kernel
theorem dX11_takes_21 : decode cX11_takes 21 = .ok (.iconst 1, 1) := by decide +kernel
theorem dX11_takes_22 : decode cX11_takes 22 = .ok (.iaload, 1) := by decide +kernel
theorem dX11_takes_23 : decode cX11_takes 23 = .ok (.iastore, 1) := by decide +kernel
theorem dX11_takes_24 : decode cX11_takes 24 = .ok (.aload_n 0, 1) := by decide +kernel
theorem dX11_takes_25 : decode cX11_takes 25 = .ok (.getfield 32, 3) := by decide +kernel
theorem dX11_takes_28 : decode cX11_takes 28 = .ok (.iconst 0, 1) := by decide +kernel
theorem dX11_takes_29 : decode cX11_takes 29 = .ok (.aload_n 0, 1) := by decide +kernel
theorem dX11_takes_30 : decode cX11_takes 30 = .ok (.getfield 32, 3) := by decide +kernel
theorem dX11_takes_33 : decode cX11_takes 33 = .ok (.iconst 1, 1) := by decide +kernel
theorem dX11_takes_34 : decode cX11_takes 34 = .ok (.iaload, 1) := by decide +kernel
theorem dX11_takes_35 : decode cX11_takes 35 = .ok (.iastore, 1) := by decide +kernel
theorem dX11_takes_36 : decode cX11_takes 36 = .ok (.iconst 0, 1) := by decide +kernel
theorem dX11_takes_37 : decode cX11_takes 37 = .ok (.istore_n 1, 1) := by decide +kernel
theorem dX11_takes_38 : decode cX11_takes 38 = .ok (.iload_n 1, 1) := by decide +kernel
theorem dX11_takes_39 : decode cX11_takes 39 = .ok (.bipush 16, 2) := by decide +kernel
theorem dX11_takes_41 : decode cX11_takes 41 = .ok (.if_icmp .ge 106, 3) := by decide +kernel
theorem dX11_takes_44 : decode cX11_takes 44 = .ok (.aload_n 0, 1) := by decide +kernel
theorem dX11_takes_45 : decode cX11_takes 45 = .ok (.getfield 29, 3) := by decide +kernel
theorem dX11_takes_48 : decode cX11_takes 48 = .ok (.iload_n 1, 1) := by decide +kernel
theorem dX11_takes_49 : decode cX11_takes 49 = .ok (.aload_n 0, 1) := by decide +kernel
theorem dX11_takes_50 : decode cX11_takes 50 = .ok (.getfield 29, 3) := by decide +kernel
theorem dX11_takes_53 : decode cX11_takes 53 = .ok (.bipush 16, 2) := by decide +kernel
theorem dX11_takes_55 : decode cX11_takes 55 = .ok (.iload_n 1, 1) := by decide +kernel
theorem dX11_takes_56 : decode cX11_takes 56 = .ok (.iadd, 1) := by decide +kernel
theorem dX11_takes_57 : decode cX11_takes 57 = .ok (.iaload, 1) := by decide +kernel
theorem dX11_takes_58 : decode cX11_takes 58 = .ok (.iastore, 1) := by decide +kernel
theorem dX11_takes_59 : decode cX11_takes 59 = .ok (.iload_n 1, 1) := by decide +kernel
theorem dX11_takes_60 : decode cX11_takes 60 = .ok (.bipush 8, 2) := by decide +kernel
theorem dX11_takes_62 : decode cX11_takes 62 = .ok (.if_icmp .ge 60, 3) := by decide +kernel
theorem dX11_takes_65 : decode cX11_takes 65 = .ok (.aload_n 0, 1) := by decide +kernel
theorem dX11_takes_66 : decode cX11_takes 66 = .ok (.getfield 17, 3) := by decide +kernel
theorem dX11_takes_69 : decode cX11_takes 69 = .ok (.iload_n 1, 1) := by decide +kernel
theorem dX11_takes_70 : decode cX11_takes 70 = .ok (.aload_n 0, 1) := by decide +kernel
theorem dX11_takes_71 : decode cX11_takes 71 = .ok (.getfield 17, 3) := by decide +kernel
theorem dX11_takes_74 : decode cX11_takes 74 = .ok (.bipush 8, 2) := by decide +kernel
theorem dX11_takes_76 : decode cX11_takes 76 = .ok (.iload_n 1, 1) := by decide +kernel
theorem dX11_takes_77 : decode cX11_takes 77 = .ok (.iadd, 1) := by decide +kernel
theorem dX11_takes_78 : decode cX11_takes 78 = .ok (.iaload, 1) := by decide +kernel
theorem dX11_takes_79 : decode cX11_takes 79 = .ok (.iastore, 1) := by decide +kernel
theorem dX11_takes_80 : decode cX11_takes 80 = .ok (.aload_n 0, 1) := by decide +kernel
theorem dX11_takes_81 : decode cX11_takes 81 = .ok (.getfield 20, 3) := by decide +kernel
theorem dX11_takes_84 : decode cX11_takes 84 = .ok (.iload_n 1, 1) := by decide +kernel
theorem dX11_takes_85 : decode cX11_takes 85 = .ok (.aload_n 0, 1) := by decide +kernel
theorem dX11_takes_86 : decode cX11_takes 86 = .ok (.getfield 20, 3) := by decide +kernel
theorem dX11_takes_89 : decode cX11_takes 89 = .ok (.bipush 8, 2) := by decide +kernel
theorem dX11_takes_91 : decode cX11_takes 91 = .ok (.iload_n 1, 1) := by decide +kernel
theorem dX11_takes_92 : decode cX11_takes 92 = .ok (.iadd, 1) := by decide +kernel
theorem dX11_takes_93 : decode cX11_takes 93 = .ok (.iaload, 1) := by decide +kernel
theorem dX11_takes_94 : decode cX11_takes 94 = .ok (.iastore, 1) := by decide +kernel
theorem dX11_takes_95 : decode cX11_takes 95 = .ok (.aload_n 0, 1) := by decide +kernel
theorem dX11_takes_96 : decode cX11_takes 96 = .ok (.getfield 35, 3) := by decide +kernel
theorem dX11_takes_99 : decode cX11_takes 99 = .ok (.iload_n 1, 1) := by decide +kernel
theorem dX11_takes_100 : decode cX11_takes 100 = .ok (.aload_n 0, 1) := by decide +kernel
theorem dX11_takes_101 : decode cX11_takes 101 = .ok (.getfield 35, 3) := by decide +kernel
theorem dX11_takes_104 : decode cX11_takes 104 = .ok (.bipush 8, 2) := by decide +kernel
theorem dX11_takes_106 : decode cX11_takes 106 = .ok (.iload_n 1, 1) := by decide +kernel
theorem dX11_takes_107 : decode cX11_takes 107 = .ok (.iadd, 1) := by decide +kernel
theorem dX11_takes_108 : decode cX11_takes 108 = .ok (.iaload, 1) := by decide +kernel
theorem dX11_takes_109 : decode cX11_takes 109 = .ok (.iastore, 1) := by decide +kernel
theorem dX11_takes_110 : decode cX11_takes 110 = .ok (.aload_n 0, 1) := by decide +kernel
theorem dX11_takes_111 : decode cX11_takes 111 = .ok (.getfield 48, 3) := by decide +kernel
theorem dX11_takes_114 : decode cX11_takes 114 = .ok (.iload_n 1, 1) := by decide +kernel
theorem dX11_takes_115 : decode cX11_takes 115 = .ok (.aload_n 0, 1) := by decide +kernel
theorem dX11_takes_116 : decode cX11_takes 116 = .ok (.getfield 17, 3) := by decide +kernel
theorem dX11_takes_119 : decode cX11_takes 119 = .ok (.iload_n 1, 1) := by decide +kernel
theorem dX11_takes_120 : decode cX11_takes 120 = .ok (.iaload, 1) := by decide +kernel
theorem dX11_takes_121 : decode cX11_takes 121 = .ok (.iastore, 1) := by decide +kernel
theorem dX11_takes_122 : decode cX11_takes 122 = .ok (.iload_n 1, 1) := by decide +kernel
theorem dX11_takes_123 : decode cX11_takes 123 = .ok (.iconst 3, 1) := by decide +kernel
theorem dX11_takes_124 : decode cX11_takes 124 = .ok (.if_icmp .ge 17, 3) := by decide +kernel
theorem dX11_takes_127 : decode cX11_takes 127 = .ok (.aload_n 0, 1) := by decide +kernel
theorem dX11_takes_128 : decode cX11_takes 128 = .ok (.getfield 23, 3) := by decide +kernel
theorem dX11_takes_131 : decode cX11_takes 131 = .ok (.iload_n 1, 1) := by decide +kernel
theorem dX11_takes_132 : decode cX11_takes 132 = .ok (.aload_n 0, 1) := by decide +kernel
theorem dX11_takes_133 : decode cX11_takes 133 = .ok (.getfield 23, 3) := by decide +kernel
theorem dX11_takes_136 : decode cX11_takes 136 = .ok (.iconst 3, 1) := by decide +kernel
theorem dX11_takes_137 : decode cX11_takes 137 = .ok (.iload_n 1, 1) := by decide +kernel
theorem dX11_takes_138 : decode cX11_takes 138 = .ok (.iadd, 1) := by decide +kernel
theorem dX11_takes_139 : decode cX11_takes 139 = .ok (.iaload, 1) := by decide +kernel
theorem dX11_takes_140 : decode cX11_takes 140 = .ok (.iastore, 1) := by decide +kernel
theorem dX11_takes_141 : decode cX11_takes 141 = .ok (.iinc 1 1, 3) := by decide +kernel
theorem dX11_takes_144 : decode cX11_takes 144 = .ok (.goto (-106), 3) := by decide +kernel
theorem dX11_takes_147 : decode cX11_takes 147 = .ok (.aload_n 0, 1) := by decide +kernel
theorem dX11_takes_148 : decode cX11_takes 148 = .ok (.iconst 0, 1) := by decide +kernel
theorem dX11_takes_149 : decode cX11_takes 149 = .ok (.putfield 123, 3) := by decide +kernel
theorem dX11_takes_152 : decode cX11_takes 152 = .ok (.iconst 0, 1) := by decide +kernel
theorem dX11_takes_153 : decode cX11_takes 153 = .ok (.istore_n 1, 1) := by decide +kernel
theorem dX11_takes_154 : decode cX11_takes 154 = .ok (.iload_n 1, 1) := by decide +kernel
theorem dX11_takes_155 : decode cX11_takes 155 = .ok (.aload_n 0, 1) := by decide +kernel
theorem dX11_takes_156 : decode cX11_takes 156 = .ok (.getfield 13, 3) := by decide +kernel
theorem dX11_takes_159 : decode cX11_takes 159 = .ok (.iconst 0, 1) := by decide +kernel
theorem dX11_takes_160 : decode cX11_takes 160 = .ok (.iaload, 1) := by decide +kernel
theorem dX11_takes_161 : decode cX11_takes 161 = .ok (.if_icmp .ge 83, 3) := by decide +kernel
theorem dX11_takes_164 : decode cX11_takes 164 = .ok (.iload_n 1, 1) := by decide +kernel
theorem dX11_takes_165 : decode cX11_takes 165 = .ok (.iconst 1, 1) := by decide +kernel
theorem dX11_takes_166 : decode cX11_takes 166 = .ok (.iadd, 1) := by decide +kernel
theorem dX11_takes_167 : decode cX11_takes 167 = .ok (.istore_n 2, 1) := by decide +kernel
theorem dX11_takes_168 : decode cX11_takes 168 = .ok (.iload_n 2, 1) := by decide +kernel
theorem dX11_takes_169 : decode cX11_takes 169 = .ok (.aload_n 0, 1) := by decide +kernel
theorem dX11_takes_170 : decode cX11_takes 170 = .ok (.getfield 13, 3) := by decide +kernel
theorem dX11_takes_173 : decode cX11_takes 173 = .ok (.iconst 0, 1) := by decide +kernel
theorem dX11_takes_174 : decode cX11_takes 174 = .ok (.iaload, 1) := by decide +kernel
theorem dX11_takes_175 : decode cX11_takes 175 = .ok (.if_icmp .ge 63, 3) := by decide +kernel
theorem dX11_takes_178 : decode cX11_takes 178 = .ok (.aload_n 0, 1) := by decide +kernel
theorem dX11_takes_179 : decode cX11_takes 179 = .ok (.iload_n 1, 1) := by decide +kernel
theorem dX11_takes_180 : decode cX11_takes 180 = .ok (.iload_n 2, 1) := by decide +kernel
theorem dX11_takes_181 : decode cX11_takes 181 = .ok (.invokevirtual 126, 3) := by decide +kernel
theorem dX11_takes_184 : decode cX11_takes 184 = .ok (.ifCond .eq 48, 3) := by decide +kernel
theorem dX11_takes_187 : decode cX11_takes 187 = .ok (.aload_n 0, 1) := by decide +kernel
theorem dX11_takes_188 : decode cX11_takes 188 = .ok (.getfield 38, 3) := by decide +kernel
theorem dX11_takes_191 : decode cX11_takes 191 = .ok (.aload_n 0, 1) := by decide +kernel
theorem dX11_takes_192 : decode cX11_takes 192 = .ok (.getfield 123, 3) := by decide +kernel
theorem dX11_takes_195 : decode cX11_takes 195 = .ok (.iload_n 1, 1) := by decide +kernel
theorem dX11_takes_196 : decode cX11_takes 196 = .ok (.iastore, 1) := by decide +kernel
theorem dX11_takes_197 : decode cX11_takes 197 = .ok (.aload_n 0, 1) := by decide +kernel
theorem dX11_takes_198 : decode cX11_takes 198 = .ok (.getfield 41, 3) := by decide +kernel
theorem dX11_takes_201 : decode cX11_takes 201 = .ok (.aload_n 0, 1) := by decide +kernel
theorem dX11_takes_202 : decode cX11_takes 202 = .ok (.getfield 123, 3) := by decide +kernel
theorem dX11_takes_205 : decode cX11_takes 205 = .ok (.iload_n 2, 1) := by decide +kernel
theorem dX11_takes_206 : decode cX11_takes 206 = .ok (.iastore, 1) := by decide +kernel
theorem dX11_takes_207 : decode cX11_takes 207 = .ok (.aload_n 0, 1) := by decide +kernel
theorem dX11_takes_208 : decode cX11_takes 208 = .ok (.getfield 44, 3) := by decide +kernel
theorem dX11_takes_211 : decode cX11_takes 211 = .ok (.aload_n 0, 1) := by decide +kernel
theorem dX11_takes_212 : decode cX11_takes 212 = .ok (.getfield 123, 3) := by decide +kernel
theorem dX11_takes_215 : decode cX11_takes 215 = .ok (.aload_n 0, 1) := by decide +kernel
theorem dX11_takes_216 : decode cX11_takes 216 = .ok (.iload_n 1, 1) := by decide +kernel
theorem dX11_takes_217 : decode cX11_takes 217 = .ok (.iload_n 2, 1) := by decide +kernel
theorem dX11_takes_218 : decode cX11_takes 218 = .ok (.invokevirtual 130, 3) := by decide +kernel
theorem dX11_takes_221 : decode cX11_takes 221 = .ok (.bastore, 1) := by decide +kernel
theorem dX11_takes_222 : decode cX11_takes 222 = .ok (.aload_n 0, 1) := by decide +kernel
theorem dX11_takes_223 : decode cX11_takes 223 = .ok (.dup, 1) := by decide +kernel
theorem dX11_takes_224 : decode cX11_takes 224 = .ok (.getfield 123, 3) := by decide +kernel
theorem dX11_takes_227 : decode cX11_takes 227 = .ok (.iconst 1, 1) := by decide +kernel
theorem dX11_takes_228 : decode cX11_takes 228 = .ok (.iadd, 1) := by decide +kernel
theorem dX11_takes_229 : decode cX11_takes 229 = .ok (.putfield 123, 3) := by decide +kernel
theorem dX11_takes_232 : decode cX11_takes 232 = .ok (.iinc 2 1, 3) := by decide +kernel
theorem dX11_takes_235 : decode cX11_takes 235 = .ok (.goto (-67), 3) := by decide +kernel
theorem dX11_takes_238 : decode cX11_takes 238 = .ok (.iinc 1 1, 3) := by decide +kernel
theorem dX11_takes_241 : decode cX11_takes 241 = .ok (.goto (-87), 3) := by decide +kernel
theorem dX11_takes_244 : decode cX11_takes 244 = .ok (.aload_n 0, 1) := by decide +kernel
theorem dX11_takes_245 : decode cX11_takes 245 = .ok (.iconst 0, 1) := by decide +kernel
theorem dX11_takes_246 : decode cX11_takes 246 = .ok (.putfield 133, 3) := by decide +kernel
theorem dX11_takes_249 : decode cX11_takes 249 = .ok (.aload_n 0, 1) := by decide +kernel
theorem dX11_takes_250 : decode cX11_takes 250 = .ok (.iconst 0, 1) := by decide +kernel
theorem dX11_takes_251 : decode cX11_takes 251 = .ok (.putfield 136, 3) := by decide +kernel
theorem dX11_takes_254 : decode cX11_takes 254 = .ok (.aload_n 0, 1) := by decide +kernel
theorem dX11_takes_255 : decode cX11_takes 255 = .ok (.iconst 0, 1) := by decide +kernel
theorem dX11_takes_256 : decode cX11_takes 256 = .ok (.putfield 139, 3) := by decide +kernel
theorem dX11_takes_259 : decode cX11_takes 259 = .ok (.return_, 1) := by decide +kernel
theorem dX11_touch_0 : decode cX11_touch 0 = .ok (.aload_n 0, 1) := by decide +kernel
theorem dX11_touch_1 : decode cX11_touch 1 = .ok (.getfield 13, 3) := by decide +kernel
theorem dX11_touch_4 : decode cX11_touch 4 = .ok (.iconst 0, 1) := by decide +kernel
theorem dX11_touch_5 : decode cX11_touch 5 = .ok (.iaload, 1) := by decide +kernel
theorem dX11_touch_6 : decode cX11_touch 6 = .ok (.istore_n 3, 1) := by decide +kernel
theorem dX11_touch_7 : decode cX11_touch 7 = .ok (.iload_n 3, 1) := by decide +kernel
theorem dX11_touch_8 : decode cX11_touch 8 = .ok (.iconst 1, 1) := by decide +kernel
theorem dX11_touch_9 : decode cX11_touch 9 = .ok (.iadd, 1) := by decide +kernel
theorem dX11_touch_10 : decode cX11_touch 10 = .ok (.iconst 2, 1) := by decide +kernel
theorem dX11_touch_11 : decode cX11_touch 11 = .ok (.idiv, 1) := by decide +kernel
theorem dX11_touch_12 : decode cX11_touch 12 = .ok (.istore 4, 2) := by decide +kernel
theorem dX11_touch_14 : decode cX11_touch 14 = .ok (.aload_n 0, 1) := by decide +kernel
theorem dX11_touch_15 : decode cX11_touch 15 = .ok (.getfield 23, 3) := by decide +kernel
theorem dX11_touch_18 : decode cX11_touch 18 = .ok (.iconst 0, 1) := by decide +kernel
theorem dX11_touch_19 : decode cX11_touch 19 = .ok (.iaload, 1) := by decide +kernel
theorem dX11_touch_20 : decode cX11_touch 20 = .ok (.ifCond .ne 16, 3) := by decide +kernel
theorem dX11_touch_23 : decode cX11_touch 23 = .ok (.iload_n 2, 1) := by decide +kernel
theorem dX11_touch_24 : decode cX11_touch 24 = .ok (.iload_n 1, 1) := by decide +kernel
theorem dX11_touch_25 : decode cX11_touch 25 = .ok (.iconst 1, 1) := by decide +kernel
theorem dX11_touch_26 : decode cX11_touch 26 = .ok (.iadd, 1) := by decide +kernel
theorem dX11_touch_27 : decode cX11_touch 27 = .ok (.if_icmp .ne 7, 3) := by decide +kernel
theorem dX11_touch_30 : decode cX11_touch 30 = .ok (.iconst 1, 1) := by decide +kernel
theorem dX11_touch_31 : decode cX11_touch 31 = .ok (.goto 4, 3) := by decide +kernel
theorem dX11_touch_34 : decode cX11_touch 34 = .ok (.iconst 0, 1) := by decide +kernel
theorem dX11_touch_35 : decode cX11_touch 35 = .ok (.ireturn, 1) := by decide +kernel
theorem dX11_touch_36 : decode cX11_touch 36 = .ok (.aload_n 0, 1) := by decide +kernel
theorem dX11_touch_37 : decode cX11_touch 37 = .ok (.getfield 23, 3) := by decide +kernel
theorem dX11_touch_40 : decode cX11_touch 40 = .ok (.iconst 0, 1) := by decide +kernel
theorem dX11_touch_41 : decode cX11_touch 41 = .ok (.iaload, 1) := by decide +kernel
theorem dX11_touch_42 : decode cX11_touch 42 = .ok (.iconst 1, 1) := by decide +kernel
theorem dX11_touch_43 : decode cX11_touch 43 = .ok (.if_icmp .ne 32, 3) := by decide +kernel
theorem dX11_touch_46 : decode cX11_touch 46 = .ok (.iload_n 2, 1) := by decide +kernel
theorem dX11_touch_47 : decode cX11_touch 47 = .ok (.iload_n 1, 1) := by decide +kernel
theorem dX11_touch_48 : decode cX11_touch 48 = .ok (.iconst 1, 1) := by decide +kernel
theorem dX11_touch_49 : decode cX11_touch 49 = .ok (.iadd, 1) := by decide +kernel
theorem dX11_touch_50 : decode cX11_touch 50 = .ok (.if_icmp .eq 19, 3) := by decide +kernel
theorem dX11_touch_53 : decode cX11_touch 53 = .ok (.iload_n 3, 1) := by decide +kernel
theorem dX11_touch_54 : decode cX11_touch 54 = .ok (.iconst 2, 1) := by decide +kernel
theorem dX11_touch_55 : decode cX11_touch 55 = .ok (.if_icmp .le 18, 3) := by decide +kernel
theorem dX11_touch_58 : decode cX11_touch 58 = .ok (.iload_n 1, 1) := by decide +kernel
theorem dX11_touch_59 : decode cX11_touch 59 = .ok (.ifCond .ne 14, 3) := by decide +kernel
theorem dX11_touch_62 : decode cX11_touch 62 = .ok (.iload_n 2, 1) := by decide +kernel
theorem dX11_touch_63 : decode cX11_touch 63 = .ok (.iload_n 3, 1) := by decide +kernel
theorem dX11_touch_64 : decode cX11_touch 64 = .ok (.iconst 1, 1) := by decide +kernel
theorem dX11_touch_65 : decode cX11_touch 65 = .ok (.isub, 1) := by decide +kernel
theorem dX11_touch_66 : decode cX11_touch 66 = .ok (.if_icmp .ne 7, 3) := by decide +kernel
theorem dX11_touch_69 : decode cX11_touch 69 = .ok (.iconst 1, 1) := by decide +kernel
theorem dX11_touch_70 : decode cX11_touch 70 = .ok (.goto 4, 3) := by decide +kernel
theorem dX11_touch_73 : decode cX11_touch 73 = .ok (.iconst 0, 1) := by decide +kernel
theorem dX11_touch_74 : decode cX11_touch 74 = .ok (.ireturn, 1) := by decide +kernel
theorem dX11_touch_75 : decode cX11_touch 75 = .ok (.iload_n 2, 1) := by decide +kernel
theorem dX11_touch_76 : decode cX11_touch 76 = .ok (.iload_n 1, 1) := by decide +kernel
theorem dX11_touch_77 : decode cX11_touch 77 = .ok (.iconst 1, 1) := by decide +kernel
theorem dX11_touch_78 : decode cX11_touch 78 = .ok (.iadd, 1) := by decide +kernel
theorem dX11_touch_79 : decode cX11_touch 79 = .ok (.if_icmp .ne 9, 3) := by decide +kernel
theorem dX11_touch_82 : decode cX11_touch 82 = .ok (.iload_n 2, 1) := by decide +kernel
theorem dX11_touch_83 : decode cX11_touch 83 = .ok (.iload 4, 2) := by decide +kernel
theorem dX11_touch_85 : decode cX11_touch 85 = .ok (.if_icmp .ne 17, 3) := by decide +kernel
theorem dX11_touch_88 : decode cX11_touch 88 = .ok (.iload_n 2, 1) := by decide +kernel
theorem dX11_touch_89 : decode cX11_touch 89 = .ok (.iload 4, 2) := by decide +kernel
theorem dX11_touch_91 : decode cX11_touch 91 = .ok (.iload_n 1, 1) := by decide +kernel
theorem dX11_touch_92 : decode cX11_touch 92 = .ok (.iadd, 1) := by decide +kernel
theorem dX11_touch_93 : decode cX11_touch 93 = .ok (.if_icmp .ne 13, 3) := by decide +kernel
theorem dX11_touch_96 : decode cX11_touch 96 = .ok (.iload_n 1, 1) := by decide +kernel
theorem dX11_touch_97 : decode cX11_touch 97 = .ok (.iload 4, 2) := by decide +kernel
theorem dX11_touch_99 : decode cX11_touch 99 = .ok (.if_icmp .ge 7, 3) := by decide +kernel
theorem dX11_touch_102 : decode cX11_touch 102 = .ok (.iconst 1, 1) := by decide +kernel
theorem dX11_touch_103 : decode cX11_touch 103 = .ok (.goto 4, 3) := by decide +kernel
theorem dX11_touch_106 : decode cX11_touch 106 = .ok (.iconst 0, 1) := by decide +kernel
theorem dX11_touch_107 : decode cX11_touch 107 = .ok (.ireturn, 1) := by decide +kernel
theorem dX11_isShut_0 : decode cX11_isShut 0 = .ok (.iconst 0, 1) := by decide +kernel
theorem dX11_isShut_1 : decode cX11_isShut 1 = .ok (.istore_n 3, 1) := by decide +kernel
theorem dX11_isShut_2 : decode cX11_isShut 2 = .ok (.iconst 0, 1) := by decide +kernel
theorem dX11_isShut_3 : decode cX11_isShut 3 = .ok (.istore 4, 2) := by decide +kernel
theorem dX11_isShut_5 : decode cX11_isShut 5 = .ok (.iload 4, 2) := by decide +kernel
theorem dX11_isShut_7 : decode cX11_isShut 7 = .ok (.aload_n 0, 1) := by decide +kernel
theorem dX11_isShut_8 : decode cX11_isShut 8 = .ok (.getfield 26, 3) := by decide +kernel
theorem dX11_isShut_11 : decode cX11_isShut 11 = .ok (.iconst 0, 1) := by decide +kernel
theorem dX11_isShut_12 : decode cX11_isShut 12 = .ok (.iaload, 1) := by decide +kernel
theorem dX11_isShut_13 : decode cX11_isShut 13 = .ok (.if_icmp .ge 75, 3) := by decide +kernel
theorem dX11_isShut_16 : decode cX11_isShut 16 = .ok (.iload_n 3, 1) := by decide +kernel
theorem dX11_isShut_17 : decode cX11_isShut 17 = .ok (.ifCond .ne 59, 3) := by decide +kernel
theorem dX11_isShut_20 : decode cX11_isShut 20 = .ok (.aload_n 0, 1) := by decide +kernel
theorem dX11_isShut_21 : decode cX11_isShut 21 = .ok (.getfield 29, 3) := by decide +kernel
theorem dX11_isShut_24 : decode cX11_isShut 24 = .ok (.iconst 2, 1) := by decide +kernel
theorem dX11_isShut_25 : decode cX11_isShut 25 = .ok (.iload 4, 2) := by decide +kernel
theorem dX11_isShut_27 : decode cX11_isShut 27 = .ok (.imul, 1) := by decide +kernel
theorem dX11_isShut_28 : decode cX11_isShut 28 = .ok (.iaload, 1) := by decide +kernel
theorem dX11_isShut_29 : decode cX11_isShut 29 = .ok (.iload_n 1, 1) := by decide +kernel
theorem dX11_isShut_30 : decode cX11_isShut 30 = .ok (.if_icmp .ne 18, 3) := by decide +kernel
theorem dX11_isShut_33 : decode cX11_isShut 33 = .ok (.aload_n 0, 1) := by decide +kernel
theorem dX11_isShut_34 : decode cX11_isShut 34 = .ok (.getfield 29, 3) := by decide +kernel
theorem dX11_isShut_37 : decode cX11_isShut 37 = .ok (.iconst 2, 1) := by decide +kernel
theorem dX11_isShut_38 : decode cX11_isShut 38 = .ok (.iload 4, 2) := by decide +kernel
theorem dX11_isShut_40 : decode cX11_isShut 40 = .ok (.imul, 1) := by decide +kernel
theorem dX11_isShut_41 : decode cX11_isShut 41 = .ok (.iconst 1, 1) := by decide +kernel
theorem dX11_isShut_42 : decode cX11_isShut 42 = .ok (.iadd, 1) := by decide +kernel
theorem dX11_isShut_43 : decode cX11_isShut 43 = .ok (.iaload, 1) := by decide +kernel
theorem dX11_isShut_44 : decode cX11_isShut 44 = .ok (.iload_n 2, 1) := by decide +kernel
theorem dX11_isShut_45 : decode cX11_isShut 45 = .ok (.if_icmp .eq 31, 3) := by decide +kernel
theorem dX11_isShut_48 : decode cX11_isShut 48 = .ok (.aload_n 0, 1) := by decide +kernel
theorem dX11_isShut_49 : decode cX11_isShut 49 = .ok (.getfield 29, 3) := by decide +kernel
theorem dX11_isShut_52 : decode cX11_isShut 52 = .ok (.iconst 2, 1) := by decide +kernel
theorem dX11_isShut_53 : decode cX11_isShut 53 = .ok (.iload 4, 2) := by decide +kernel
theorem dX11_isShut_55 : decode cX11_isShut 55 = .ok (.imul, 1) := by decide +kernel
theorem dX11_isShut_56 : decode cX11_isShut 56 = .ok (.iaload, 1) := by decide +kernel
theorem dX11_isShut_57 : decode cX11_isShut 57 = .ok (.iload_n 2, 1) := by decide +kernel
theorem dX11_isShut_58 : decode cX11_isShut 58 = .ok (.if_icmp .ne 22, 3) := by decide +kernel
theorem dX11_isShut_61 : decode cX11_isShut 61 = .ok (.aload_n 0, 1) := by decide +kernel
theorem dX11_isShut_62 : decode cX11_isShut 62 = .ok (.getfield 29, 3) := by decide +kernel
theorem dX11_isShut_65 : decode cX11_isShut 65 = .ok (.iconst 2, 1) := by decide +kernel
theorem dX11_isShut_66 : decode cX11_isShut 66 = .ok (.iload 4, 2) := by decide +kernel
theorem dX11_isShut_68 : decode cX11_isShut 68 = .ok (.imul, 1) := by decide +kernel
theorem dX11_isShut_69 : decode cX11_isShut 69 = .ok (.iconst 1, 1) := by decide +kernel
theorem dX11_isShut_70 : decode cX11_isShut 70 = .ok (.iadd, 1) := by decide +kernel
theorem dX11_isShut_71 : decode cX11_isShut 71 = .ok (.iaload, 1) := by decide +kernel
theorem dX11_isShut_72 : decode cX11_isShut 72 = .ok (.iload_n 1, 1) := by decide +kernel
theorem dX11_isShut_73 : decode cX11_isShut 73 = .ok (.if_icmp .ne 7, 3) := by decide +kernel
theorem dX11_isShut_76 : decode cX11_isShut 76 = .ok (.iconst 1, 1) := by decide +kernel
theorem dX11_isShut_77 : decode cX11_isShut 77 = .ok (.goto 4, 3) := by decide +kernel
theorem dX11_isShut_80 : decode cX11_isShut 80 = .ok (.iconst 0, 1) := by decide +kernel
theorem dX11_isShut_81 : decode cX11_isShut 81 = .ok (.istore_n 3, 1) := by decide +kernel
theorem dX11_isShut_82 : decode cX11_isShut 82 = .ok (.iinc 4 1, 3) := by decide +kernel
theorem dX11_isShut_85 : decode cX11_isShut 85 = .ok (.goto (-80), 3) := by decide +kernel
theorem dX11_isShut_88 : decode cX11_isShut 88 = .ok (.iload_n 3, 1) := by decide +kernel
theorem dX11_isShut_89 : decode cX11_isShut 89 = .ok (.ireturn, 1) := by decide +kernel
theorem dX11_fault_0 : decode cX11_fault 0 = .ok (.aload_n 0, 1) := by decide +kernel
theorem dX11_fault_1 : decode cX11_fault 1 = .ok (.iconst 0, 1) := by decide +kernel
theorem dX11_fault_2 : decode cX11_fault 2 = .ok (.putfield 94, 3) := by decide +kernel
theorem dX11_fault_5 : decode cX11_fault 5 = .ok (.aload_n 0, 1) := by decide +kernel
theorem dX11_fault_6 : decode cX11_fault 6 = .ok (.invokevirtual 78, 3) := by decide +kernel
theorem dX11_fault_9 : decode cX11_fault 9 = .ok (.aload_n 0, 1) := by decide +kernel
theorem dX11_fault_10 : decode cX11_fault 10 = .ok (.getfield 94, 3) := by decide +kernel
theorem dX11_fault_13 : decode cX11_fault 13 = .ok (.aload_n 0, 1) := by decide +kernel
theorem dX11_fault_14 : decode cX11_fault 14 = .ok (.getfield 90, 3) := by decide +kernel
theorem dX11_fault_17 : decode cX11_fault 17 = .ok (.if_icmp .ge 20, 3) := by decide +kernel
theorem dX11_fault_20 : decode cX11_fault 20 = .ok (.aload_n 0, 1) := by decide +kernel
theorem dX11_fault_21 : decode cX11_fault 21 = .ok (.getfield 94, 3) := by decide +kernel
theorem dX11_fault_24 : decode cX11_fault 24 = .ok (.istore_n 1, 1) := by decide +kernel
theorem dX11_fault_25 : decode cX11_fault 25 = .ok (.aload_n 0, 1) := by decide +kernel
theorem dX11_fault_26 : decode cX11_fault 26 = .ok (.invokevirtual 142, 3) := by decide +kernel
theorem dX11_fault_29 : decode cX11_fault 29 = .ok (.ifCond .ne 5, 3) := by decide +kernel
theorem dX11_fault_32 : decode cX11_fault 32 = .ok (.iload_n 1, 1) := by decide +kernel
theorem dX11_fault_33 : decode cX11_fault 33 = .ok (.ireturn, 1) := by decide +kernel
theorem dX11_fault_34 : decode cX11_fault 34 = .ok (.goto (-25), 3) := by decide +kernel
theorem dX11_fault_37 : decode cX11_fault 37 = .ok (.bipush (-4), 2) := by decide +kernel
theorem dX11_fault_39 : decode cX11_fault 39 = .ok (.ireturn, 1) := by decide +kernel
theorem dX11_lay_0 : decode cX11_lay 0 = .ok (.aload_n 0, 1) := by decide +kernel
theorem dX11_lay_1 : decode cX11_lay 1 = .ok (.invokevirtual 146, 3) := by decide +kernel
theorem dX11_lay_4 : decode cX11_lay 4 = .ok (.bipush (-4), 2) := by decide +kernel
theorem dX11_lay_6 : decode cX11_lay 6 = .ok (.if_icmp .ne 12, 3) := by decide +kernel
end
section
theorem dX11_lay_9 : decode cX11_lay 9 = .ok (.aload_n 0, 1) := by decide +kernel
theorem dX11_lay_10 : decode cX11_lay 10 = .ok (.getfield 13, 3) := by decide +kernel
theorem dX11_lay_13 : decode cX11_lay 13 = .ok (.iconst 1, 1) := by decide +kernel
theorem dX11_lay_14 : decode cX11_lay 14 = .ok (.iaload, 1) := by decide +kernel
theorem dX11_lay_15 : decode cX11_lay 15 = .ok (.ifCond .ne 6, 3) := by decide +kernel
theorem dX11_lay_18 : decode cX11_lay 18 = .ok (.bipush (-2), 2) := by decide +kernel
theorem dX11_lay_20 : decode cX11_lay 20 = .ok (.ireturn, 1) := by decide +kernel
theorem dX11_lay_21 : decode cX11_lay 21 = .ok (.aload_n 0, 1) := by decide +kernel
theorem dX11_lay_22 : decode cX11_lay 22 = .ok (.invokevirtual 81, 3) := by decide +kernel
theorem dX11_lay_25 : decode cX11_lay 25 = .ok (.aload_n 0, 1) := by decide +kernel
theorem dX11_lay_26 : decode cX11_lay 26 = .ok (.getfield 13, 3) := by decide +kernel
theorem dX11_lay_29 : decode cX11_lay 29 = .ok (.iconst 0, 1) := by decide +kernel
theorem dX11_lay_30 : decode cX11_lay 30 = .ok (.iaload, 1) := by decide +kernel
theorem dX11_lay_31 : decode cX11_lay 31 = .ok (.ireturn, 1) := by decide +kernel
theorem dX11_isBin_0 : decode cX11_isBin 0 = .ok (.iload_n 1, 1) := by decide +kernel
theorem dX11_isBin_1 : decode cX11_isBin 1 = .ok (.i2l, 1) := by decide +kernel
theorem dX11_isBin_2 : decode cX11_isBin 2 = .ok (.lconst 0, 1) := by decide +kernel
theorem dX11_isBin_3 : decode cX11_isBin 3 = .ok (.aload_n 0, 1) := by decide +kernel
theorem dX11_isBin_4 : decode cX11_isBin 4 = .ok (.getfield 13, 3) := by decide +kernel
theorem dX11_isBin_7 : decode cX11_isBin 7 = .ok (.iconst 0, 1) := by decide +kernel
theorem dX11_isBin_8 : decode cX11_isBin 8 = .ok (.iaload, 1) := by decide +kernel
theorem dX11_isBin_9 : decode cX11_isBin 9 = .ok (.iconst 1, 1) := by decide +kernel
theorem dX11_isBin_10 : decode cX11_isBin 10 = .ok (.isub, 1) := by decide +kernel
theorem dX11_isBin_11 : decode cX11_isBin 11 = .ok (.i2l, 1) := by decide +kernel
theorem dX11_isBin_12 : decode cX11_isBin 12 = .ok (.invokestatic 86, 3) := by decide +kernel
theorem dX11_isBin_15 : decode cX11_isBin 15 = .ok (.ireturn, 1) := by decide +kernel
theorem dX11_bin_0 : decode cX11_bin 0 = .ok (.aload_n 0, 1) := by decide +kernel
theorem dX11_bin_1 : decode cX11_bin 1 = .ok (.iload_n 1, 1) := by decide +kernel
theorem dX11_bin_2 : decode cX11_bin 2 = .ok (.invokevirtual 149, 3) := by decide +kernel
theorem dX11_bin_5 : decode cX11_bin 5 = .ok (.ifCond .eq 13, 3) := by decide +kernel
theorem dX11_bin_8 : decode cX11_bin 8 = .ok (.iload_n 2, 1) := by decide +kernel
theorem dX11_bin_9 : decode cX11_bin 9 = .ok (.i2l, 1) := by decide +kernel
theorem dX11_bin_10 : decode cX11_bin 10 = .ok (.lconst 0, 1) := by decide +kernel
theorem dX11_bin_11 : decode cX11_bin 11 = .ok (.lconst 1, 1) := by decide +kernel
theorem dX11_bin_12 : decode cX11_bin 12 = .ok (.invokestatic 86, 3) := by decide +kernel
theorem dX11_bin_15 : decode cX11_bin 15 = .ok (.ifCond .ne 7, 3) := by decide +kernel
theorem dX11_bin_18 : decode cX11_bin 18 = .ok (.iconst (-1), 1) := by decide +kernel
theorem dX11_bin_19 : decode cX11_bin 19 = .ok (.goto 22, 3) := by decide +kernel
theorem dX11_bin_22 : decode cX11_bin 22 = .ok (.iload_n 2, 1) := by decide +kernel
theorem dX11_bin_23 : decode cX11_bin 23 = .ok (.ifCond .ne 12, 3) := by decide +kernel
theorem dX11_bin_26 : decode cX11_bin 26 = .ok (.aload_n 0, 1) := by decide +kernel
theorem dX11_bin_27 : decode cX11_bin 27 = .ok (.getfield 48, 3) := by decide +kernel
theorem dX11_bin_30 : decode cX11_bin 30 = .ok (.iload_n 1, 1) := by decide +kernel
theorem dX11_bin_31 : decode cX11_bin 31 = .ok (.iaload, 1) := by decide +kernel
theorem dX11_bin_32 : decode cX11_bin 32 = .ok (.goto 9, 3) := by decide +kernel
theorem dX11_bin_35 : decode cX11_bin 35 = .ok (.aload_n 0, 1) := by decide +kernel
theorem dX11_bin_36 : decode cX11_bin 36 = .ok (.getfield 20, 3) := by decide +kernel
theorem dX11_bin_39 : decode cX11_bin 39 = .ok (.iload_n 1, 1) := by decide +kernel
theorem dX11_bin_40 : decode cX11_bin 40 = .ok (.iaload, 1) := by decide +kernel
theorem dX11_bin_41 : decode cX11_bin 41 = .ok (.ireturn, 1) := by decide +kernel
theorem dX11_gap_0 : decode cX11_gap 0 = .ok (.iload_n 1, 1) := by decide +kernel
theorem dX11_gap_1 : decode cX11_gap 1 = .ok (.i2l, 1) := by decide +kernel
theorem dX11_gap_2 : decode cX11_gap 2 = .ok (.lconst 0, 1) := by decide +kernel
theorem dX11_gap_3 : decode cX11_gap 3 = .ok (.aload_n 0, 1) := by decide +kernel
theorem dX11_gap_4 : decode cX11_gap 4 = .ok (.getfield 123, 3) := by decide +kernel
theorem dX11_gap_7 : decode cX11_gap 7 = .ok (.iconst 1, 1) := by decide +kernel
theorem dX11_gap_8 : decode cX11_gap 8 = .ok (.isub, 1) := by decide +kernel
theorem dX11_gap_9 : decode cX11_gap 9 = .ok (.i2l, 1) := by decide +kernel
theorem dX11_gap_10 : decode cX11_gap 10 = .ok (.invokestatic 86, 3) := by decide +kernel
theorem dX11_gap_13 : decode cX11_gap 13 = .ok (.ifCond .eq 15, 3) := by decide +kernel
theorem dX11_gap_16 : decode cX11_gap 16 = .ok (.iload_n 2, 1) := by decide +kernel
theorem dX11_gap_17 : decode cX11_gap 17 = .ok (.i2l, 1) := by decide +kernel
theorem dX11_gap_18 : decode cX11_gap 18 = .ok (.lconst 0, 1) := by decide +kernel
theorem dX11_gap_19 : decode cX11_gap 19 = .ok (.ldc2_w 117, 3) := by decide +kernel
theorem dX11_gap_22 : decode cX11_gap 22 = .ok (.invokestatic 86, 3) := by decide +kernel
theorem dX11_gap_25 : decode cX11_gap 25 = .ok (.ifCond .ne 7, 3) := by decide +kernel
theorem dX11_gap_28 : decode cX11_gap 28 = .ok (.iconst (-1), 1) := by decide +kernel
theorem dX11_gap_29 : decode cX11_gap 29 = .ok (.goto 44, 3) := by decide +kernel
theorem dX11_gap_32 : decode cX11_gap 32 = .ok (.iload_n 2, 1) := by decide +kernel
theorem dX11_gap_33 : decode cX11_gap 33 = .ok (.ifCond .ne 12, 3) := by decide +kernel
theorem dX11_gap_36 : decode cX11_gap 36 = .ok (.aload_n 0, 1) := by decide +kernel
theorem dX11_gap_37 : decode cX11_gap 37 = .ok (.getfield 38, 3) := by decide +kernel
theorem dX11_gap_40 : decode cX11_gap 40 = .ok (.iload_n 1, 1) := by decide +kernel
theorem dX11_gap_41 : decode cX11_gap 41 = .ok (.iaload, 1) := by decide +kernel
theorem dX11_gap_42 : decode cX11_gap 42 = .ok (.goto 31, 3) := by decide +kernel
theorem dX11_gap_45 : decode cX11_gap 45 = .ok (.iload_n 2, 1) := by decide +kernel
theorem dX11_gap_46 : decode cX11_gap 46 = .ok (.iconst 1, 1) := by decide +kernel
theorem dX11_gap_47 : decode cX11_gap 47 = .ok (.if_icmp .ne 12, 3) := by decide +kernel
theorem dX11_gap_50 : decode cX11_gap 50 = .ok (.aload_n 0, 1) := by decide +kernel
theorem dX11_gap_51 : decode cX11_gap 51 = .ok (.getfield 41, 3) := by decide +kernel
theorem dX11_gap_54 : decode cX11_gap 54 = .ok (.iload_n 1, 1) := by decide +kernel
theorem dX11_gap_55 : decode cX11_gap 55 = .ok (.iaload, 1) := by decide +kernel
theorem dX11_gap_56 : decode cX11_gap 56 = .ok (.goto 17, 3) := by decide +kernel
theorem dX11_gap_59 : decode cX11_gap 59 = .ok (.aload_n 0, 1) := by decide +kernel
theorem dX11_gap_60 : decode cX11_gap 60 = .ok (.getfield 44, 3) := by decide +kernel
theorem dX11_gap_63 : decode cX11_gap 63 = .ok (.iload_n 1, 1) := by decide +kernel
theorem dX11_gap_64 : decode cX11_gap 64 = .ok (.baload, 1) := by decide +kernel
theorem dX11_gap_65 : decode cX11_gap 65 = .ok (.ifCond .eq 7, 3) := by decide +kernel
theorem dX11_gap_68 : decode cX11_gap 68 = .ok (.iconst 1, 1) := by decide +kernel
theorem dX11_gap_69 : decode cX11_gap 69 = .ok (.goto 4, 3) := by decide +kernel
theorem dX11_gap_72 : decode cX11_gap 72 = .ok (.iconst 0, 1) := by decide +kernel
theorem dX11_gap_73 : decode cX11_gap 73 = .ok (.ireturn, 1) := by decide +kernel
theorem dX11_eats_0 : decode cX11_eats 0 = .ok (.aload_n 0, 1) := by decide +kernel
theorem dX11_eats_1 : decode cX11_eats 1 = .ok (.getfield 23, 3) := by decide +kernel
theorem dX11_eats_4 : decode cX11_eats 4 = .ok (.iconst 2, 1) := by decide +kernel
theorem dX11_eats_5 : decode cX11_eats 5 = .ok (.iaload, 1) := by decide +kernel
theorem dX11_eats_6 : decode cX11_eats 6 = .ok (.istore 4, 2) := by decide +kernel
theorem dX11_eats_8 : decode cX11_eats 8 = .ok (.iload_n 1, 1) := by decide +kernel
theorem dX11_eats_9 : decode cX11_eats 9 = .ok (.ifCond .ne 7, 3) := by decide +kernel
theorem dX11_eats_12 : decode cX11_eats 12 = .ok (.iload_n 2, 1) := by decide +kernel
theorem dX11_eats_13 : decode cX11_eats 13 = .ok (.goto 55, 3) := by decide +kernel
theorem dX11_eats_16 : decode cX11_eats 16 = .ok (.iload_n 1, 1) := by decide +kernel
theorem dX11_eats_17 : decode cX11_eats 17 = .ok (.iconst 1, 1) := by decide +kernel
theorem dX11_eats_18 : decode cX11_eats 18 = .ok (.if_icmp .ne 9, 3) := by decide +kernel
theorem dX11_eats_21 : decode cX11_eats 21 = .ok (.iload_n 2, 1) := by decide +kernel
theorem dX11_eats_22 : decode cX11_eats 22 = .ok (.iconst 2, 1) := by decide +kernel
theorem dX11_eats_23 : decode cX11_eats 23 = .ok (.idiv, 1) := by decide +kernel
theorem dX11_eats_24 : decode cX11_eats 24 = .ok (.goto 44, 3) := by decide +kernel
theorem dX11_eats_27 : decode cX11_eats 27 = .ok (.iload_n 1, 1) := by decide +kernel
theorem dX11_eats_28 : decode cX11_eats 28 = .ok (.iconst 2, 1) := by decide +kernel
theorem dX11_eats_29 : decode cX11_eats 29 = .ok (.if_icmp .ne 20, 3) := by decide +kernel
theorem dX11_eats_32 : decode cX11_eats 32 = .ok (.iload_n 2, 1) := by decide +kernel
theorem dX11_eats_33 : decode cX11_eats 33 = .ok (.iload 4, 2) := by decide +kernel
theorem dX11_eats_35 : decode cX11_eats 35 = .ok (.if_icmp .le 10, 3) := by decide +kernel
theorem dX11_eats_38 : decode cX11_eats 38 = .ok (.iload_n 2, 1) := by decide +kernel
theorem dX11_eats_39 : decode cX11_eats 39 = .ok (.iload 4, 2) := by decide +kernel
theorem dX11_eats_41 : decode cX11_eats 41 = .ok (.isub, 1) := by decide +kernel
theorem dX11_eats_42 : decode cX11_eats 42 = .ok (.goto 26, 3) := by decide +kernel
theorem dX11_eats_45 : decode cX11_eats 45 = .ok (.iconst 0, 1) := by decide +kernel
theorem dX11_eats_46 : decode cX11_eats 46 = .ok (.goto 22, 3) := by decide +kernel
theorem dX11_eats_49 : decode cX11_eats 49 = .ok (.iload_n 3, 1) := by decide +kernel
theorem dX11_eats_50 : decode cX11_eats 50 = .ok (.bipush 7, 2) := by decide +kernel
theorem dX11_eats_52 : decode cX11_eats 52 = .ok (.irem, 1) := by decide +kernel
theorem dX11_eats_53 : decode cX11_eats 53 = .ok (.iload 4, 2) := by decide +kernel
theorem dX11_eats_55 : decode cX11_eats 55 = .ok (.bipush 7, 2) := by decide +kernel
theorem dX11_eats_57 : decode cX11_eats 57 = .ok (.irem, 1) := by decide +kernel
theorem dX11_eats_58 : decode cX11_eats 58 = .ok (.if_icmp .ne 7, 3) := by decide +kernel
theorem dX11_eats_61 : decode cX11_eats 61 = .ok (.iload_n 2, 1) := by decide +kernel
theorem dX11_eats_62 : decode cX11_eats 62 = .ok (.goto 6, 3) := by decide +kernel
theorem dX11_eats_65 : decode cX11_eats 65 = .ok (.iload_n 2, 1) := by decide +kernel
theorem dX11_eats_66 : decode cX11_eats 66 = .ok (.iconst 3, 1) := by decide +kernel
theorem dX11_eats_67 : decode cX11_eats 67 = .ok (.idiv, 1) := by decide +kernel
theorem dX11_eats_68 : decode cX11_eats 68 = .ok (.ireturn, 1) := by decide +kernel
theorem dX11_goes_0 : decode cX11_goes 0 = .ok (.iconst 0, 1) := by decide +kernel
theorem dX11_goes_1 : decode cX11_goes 1 = .ok (.istore_n 3, 1) := by decide +kernel
theorem dX11_goes_2 : decode cX11_goes 2 = .ok (.iload_n 3, 1) := by decide +kernel
theorem dX11_goes_3 : decode cX11_goes 3 = .ok (.bipush 8, 2) := by decide +kernel
theorem dX11_goes_5 : decode cX11_goes 5 = .ok (.if_icmp .ge 21, 3) := by decide +kernel
theorem dX11_goes_8 : decode cX11_goes 8 = .ok (.aload_n 0, 1) := by decide +kernel
theorem dX11_goes_9 : decode cX11_goes 9 = .ok (.getfield 60, 3) := by decide +kernel
theorem dX11_goes_12 : decode cX11_goes 12 = .ok (.iload_n 3, 1) := by decide +kernel
theorem dX11_goes_13 : decode cX11_goes 13 = .ok (.aload_n 0, 1) := by decide +kernel
theorem dX11_goes_14 : decode cX11_goes 14 = .ok (.getfield 57, 3) := by decide +kernel
theorem dX11_goes_17 : decode cX11_goes 17 = .ok (.iload_n 3, 1) := by decide +kernel
theorem dX11_goes_18 : decode cX11_goes 18 = .ok (.iaload, 1) := by decide +kernel
theorem dX11_goes_19 : decode cX11_goes 19 = .ok (.iastore, 1) := by decide +kernel
theorem dX11_goes_20 : decode cX11_goes 20 = .ok (.iinc 3 1, 3) := by decide +kernel
theorem dX11_goes_23 : decode cX11_goes 23 = .ok (.goto (-21), 3) := by decide +kernel
theorem dX11_goes_26 : decode cX11_goes 26 = .ok (.iconst 0, 1) := by decide +kernel
theorem dX11_goes_27 : decode cX11_goes 27 = .ok (.istore_n 3, 1) := by decide +kernel
theorem dX11_goes_28 : decode cX11_goes 28 = .ok (.iconst 0, 1) := by decide +kernel
theorem dX11_goes_29 : decode cX11_goes 29 = .ok (.istore 4, 2) := by decide +kernel
theorem dX11_goes_31 : decode cX11_goes 31 = .ok (.iload 4, 2) := by decide +kernel
theorem dX11_goes_33 : decode cX11_goes 33 = .ok (.aload_n 0, 1) := by decide +kernel
theorem dX11_goes_34 : decode cX11_goes 34 = .ok (.getfield 123, 3) := by decide +kernel
theorem dX11_goes_37 : decode cX11_goes 37 = .ok (.if_icmp .ge 168, 3) := by decide +kernel
theorem dX11_goes_40 : decode cX11_goes 40 = .ok (.aload_n 0, 1) := by decide +kernel
theorem dX11_goes_41 : decode cX11_goes 41 = .ok (.getfield 60, 3) := by decide +kernel
theorem dX11_goes_44 : decode cX11_goes 44 = .ok (.aload_n 0, 1) := by decide +kernel
theorem dX11_goes_45 : decode cX11_goes 45 = .ok (.getfield 38, 3) := by decide +kernel
theorem dX11_goes_48 : decode cX11_goes 48 = .ok (.iload 4, 2) := by decide +kernel
theorem dX11_goes_50 : decode cX11_goes 50 = .ok (.iaload, 1) := by decide +kernel
theorem dX11_goes_51 : decode cX11_goes 51 = .ok (.iaload, 1) := by decide +kernel
theorem dX11_goes_52 : decode cX11_goes 52 = .ok (.aload_n 0, 1) := by decide +kernel
theorem dX11_goes_53 : decode cX11_goes 53 = .ok (.getfield 60, 3) := by decide +kernel
theorem dX11_goes_56 : decode cX11_goes 56 = .ok (.aload_n 0, 1) := by decide +kernel
theorem dX11_goes_57 : decode cX11_goes 57 = .ok (.getfield 41, 3) := by decide +kernel
theorem dX11_goes_60 : decode cX11_goes 60 = .ok (.iload 4, 2) := by decide +kernel
theorem dX11_goes_62 : decode cX11_goes 62 = .ok (.iaload, 1) := by decide +kernel
theorem dX11_goes_63 : decode cX11_goes 63 = .ok (.iaload, 1) := by decide +kernel
theorem dX11_goes_64 : decode cX11_goes 64 = .ok (.isub, 1) := by decide +kernel
theorem dX11_goes_65 : decode cX11_goes 65 = .ok (.istore 5, 2) := by decide +kernel
theorem dX11_goes_67 : decode cX11_goes 67 = .ok (.iload 5, 2) := by decide +kernel
theorem dX11_goes_69 : decode cX11_goes 69 = .ok (.ifCond .le 13, 3) := by decide +kernel
theorem dX11_goes_72 : decode cX11_goes 72 = .ok (.aload_n 0, 1) := by decide +kernel
theorem dX11_goes_73 : decode cX11_goes 73 = .ok (.getfield 38, 3) := by decide +kernel
theorem dX11_goes_76 : decode cX11_goes 76 = .ok (.iload 4, 2) := by decide +kernel
theorem dX11_goes_78 : decode cX11_goes 78 = .ok (.iaload, 1) := by decide +kernel
theorem dX11_goes_79 : decode cX11_goes 79 = .ok (.goto 10, 3) := by decide +kernel
theorem dX11_goes_82 : decode cX11_goes 82 = .ok (.aload_n 0, 1) := by decide +kernel
theorem dX11_goes_83 : decode cX11_goes 83 = .ok (.getfield 41, 3) := by decide +kernel
theorem dX11_goes_86 : decode cX11_goes 86 = .ok (.iload 4, 2) := by decide +kernel
theorem dX11_goes_88 : decode cX11_goes 88 = .ok (.iaload, 1) := by decide +kernel
theorem dX11_goes_89 : decode cX11_goes 89 = .ok (.istore 6, 2) := by decide +kernel
theorem dX11_goes_91 : decode cX11_goes 91 = .ok (.aload_n 0, 1) := by decide +kernel
theorem dX11_goes_92 : decode cX11_goes 92 = .ok (.getfield 44, 3) := by decide +kernel
theorem dX11_goes_95 : decode cX11_goes 95 = .ok (.iload 4, 2) := by decide +kernel
theorem dX11_goes_97 : decode cX11_goes 97 = .ok (.baload, 1) := by decide +kernel
theorem dX11_goes_98 : decode cX11_goes 98 = .ok (.ifCond .ne 16, 3) := by decide +kernel
theorem dX11_goes_101 : decode cX11_goes 101 = .ok (.aload_n 0, 1) := by decide +kernel
theorem dX11_goes_102 : decode cX11_goes 102 = .ok (.getfield 133, 3) := by decide +kernel
theorem dX11_goes_105 : decode cX11_goes 105 = .ok (.iload 4, 2) := by decide +kernel
theorem dX11_goes_107 : decode cX11_goes 107 = .ok (.ishr, 1) := by decide +kernel
theorem dX11_goes_108 : decode cX11_goes 108 = .ok (.iconst 1, 1) := by decide +kernel
theorem dX11_goes_109 : decode cX11_goes 109 = .ok (.iand, 1) := by decide +kernel
theorem dX11_goes_110 : decode cX11_goes 110 = .ok (.iconst 1, 1) := by decide +kernel
theorem dX11_goes_111 : decode cX11_goes 111 = .ok (.if_icmp .ne 7, 3) := by decide +kernel
theorem dX11_goes_114 : decode cX11_goes 114 = .ok (.iconst 0, 1) := by decide +kernel
theorem dX11_goes_115 : decode cX11_goes 115 = .ok (.goto 22, 3) := by decide +kernel
theorem dX11_goes_118 : decode cX11_goes 118 = .ok (.aload_n 0, 1) := by decide +kernel
theorem dX11_goes_119 : decode cX11_goes 119 = .ok (.iload_n 1, 1) := by decide +kernel
theorem dX11_goes_120 : decode cX11_goes 120 = .ok (.iload 5, 2) := by decide +kernel
theorem dX11_goes_122 : decode cX11_goes 122 = .ok (.ifCond .ge 9, 3) := by decide +kernel
theorem dX11_goes_125 : decode cX11_goes 125 = .ok (.iload 5, 2) := by decide +kernel
theorem dX11_goes_127 : decode cX11_goes 127 = .ok (.ineg, 1) := by decide +kernel
theorem dX11_goes_128 : decode cX11_goes 128 = .ok (.goto 5, 3) := by decide +kernel
theorem dX11_goes_131 : decode cX11_goes 131 = .ok (.iload 5, 2) := by decide +kernel
theorem dX11_goes_133 : decode cX11_goes 133 = .ok (.iload_n 2, 1) := by decide +kernel
theorem dX11_goes_134 : decode cX11_goes 134 = .ok (.invokevirtual 152, 3) := by decide +kernel
theorem dX11_goes_137 : decode cX11_goes 137 = .ok (.istore 7, 2) := by decide +kernel
theorem dX11_goes_139 : decode cX11_goes 139 = .ok (.iload 7, 2) := by decide +kernel
theorem dX11_goes_141 : decode cX11_goes 141 = .ok (.aload_n 0, 1) := by decide +kernel
theorem dX11_goes_142 : decode cX11_goes 142 = .ok (.getfield 57, 3) := by decide +kernel
theorem dX11_goes_145 : decode cX11_goes 145 = .ok (.iload 6, 2) := by decide +kernel
theorem dX11_goes_147 : decode cX11_goes 147 = .ok (.iaload, 1) := by decide +kernel
theorem dX11_goes_148 : decode cX11_goes 148 = .ok (.if_icmp .le 13, 3) := by decide +kernel
theorem dX11_goes_151 : decode cX11_goes 151 = .ok (.aload_n 0, 1) := by decide +kernel
theorem dX11_goes_152 : decode cX11_goes 152 = .ok (.getfield 57, 3) := by decide +kernel
theorem dX11_goes_155 : decode cX11_goes 155 = .ok (.iload 6, 2) := by decide +kernel
theorem dX11_goes_157 : decode cX11_goes 157 = .ok (.iaload, 1) := by decide +kernel
theorem dX11_goes_158 : decode cX11_goes 158 = .ok (.goto 5, 3) := by decide +kernel
theorem dX11_goes_161 : decode cX11_goes 161 = .ok (.iload 7, 2) := by decide +kernel
theorem dX11_goes_163 : decode cX11_goes 163 = .ok (.istore 7, 2) := by decide +kernel
theorem dX11_goes_165 : decode cX11_goes 165 = .ok (.aload_n 0, 1) := by decide +kernel
theorem dX11_goes_166 : decode cX11_goes 166 = .ok (.getfield 57, 3) := by decide +kernel
theorem dX11_goes_169 : decode cX11_goes 169 = .ok (.iload 6, 2) := by decide +kernel
theorem dX11_goes_171 : decode cX11_goes 171 = .ok (.dup2, 1) := by decide +kernel
theorem dX11_goes_172 : decode cX11_goes 172 = .ok (.iaload, 1) := by decide +kernel
theorem dX11_goes_173 : decode cX11_goes 173 = .ok (.iload 7, 2) := by decide +kernel
theorem dX11_goes_175 : decode cX11_goes 175 = .ok (.isub, 1) := by decide +kernel
theorem dX11_goes_176 : decode cX11_goes 176 = .ok (.iastore, 1) := by decide +kernel
theorem dX11_goes_177 : decode cX11_goes 177 = .ok (.aload_n 0, 1) := by decide +kernel
theorem dX11_goes_178 : decode cX11_goes 178 = .ok (.getfield 63, 3) := by decide +kernel
theorem dX11_goes_181 : decode cX11_goes 181 = .ok (.aload_n 0, 1) := by decide +kernel
theorem dX11_goes_182 : decode cX11_goes 182 = .ok (.getfield 20, 3) := by decide +kernel
theorem dX11_goes_185 : decode cX11_goes 185 = .ok (.iload 6, 2) := by decide +kernel
theorem dX11_goes_187 : decode cX11_goes 187 = .ok (.iaload, 1) := by decide +kernel
theorem dX11_goes_188 : decode cX11_goes 188 = .ok (.dup2, 1) := by decide +kernel
theorem dX11_goes_189 : decode cX11_goes 189 = .ok (.iaload, 1) := by decide +kernel
theorem dX11_goes_190 : decode cX11_goes 190 = .ok (.iload 7, 2) := by decide +kernel
theorem dX11_goes_192 : decode cX11_goes 192 = .ok (.iadd, 1) := by decide +kernel
theorem dX11_goes_193 : decode cX11_goes 193 = .ok (.iastore, 1) := by decide +kernel
theorem dX11_goes_194 : decode cX11_goes 194 = .ok (.iload_n 3, 1) := by decide +kernel
theorem dX11_goes_195 : decode cX11_goes 195 = .ok (.iload 7, 2) := by decide +kernel
theorem dX11_goes_197 : decode cX11_goes 197 = .ok (.iadd, 1) := by decide +kernel
theorem dX11_goes_198 : decode cX11_goes 198 = .ok (.istore_n 3, 1) := by decide +kernel
theorem dX11_goes_199 : decode cX11_goes 199 = .ok (.iinc 4 1, 3) := by decide +kernel
theorem dX11_goes_202 : decode cX11_goes 202 = .ok (.goto (-171), 3) := by decide +kernel
theorem dX11_goes_205 : decode cX11_goes 205 = .ok (.iload_n 3, 1) := by decide +kernel
theorem dX11_goes_206 : decode cX11_goes 206 = .ok (.ireturn, 1) := by decide +kernel
theorem dX11_nights_0 : decode cX11_nights 0 = .ok (.iconst 0, 1) := by decide +kernel
theorem dX11_nights_1 : decode cX11_nights 1 = .ok (.istore 4, 2) := by decide +kernel
theorem dX11_nights_3 : decode cX11_nights 3 = .ok (.iconst 0, 1) := by decide +kernel
theorem dX11_nights_4 : decode cX11_nights 4 = .ok (.istore 5, 2) := by decide +kernel
theorem dX11_nights_6 : decode cX11_nights 6 = .ok (.iload 5, 2) := by decide +kernel
theorem dX11_nights_8 : decode cX11_nights 8 = .ok (.iload_n 3, 1) := by decide +kernel
theorem dX11_nights_9 : decode cX11_nights 9 = .ok (.if_icmp .ge 23, 3) := by decide +kernel
theorem dX11_nights_12 : decode cX11_nights 12 = .ok (.iload 4, 2) := by decide +kernel
theorem dX11_nights_14 : decode cX11_nights 14 = .ok (.aload_n 0, 1) := by decide +kernel
theorem dX11_nights_15 : decode cX11_nights 15 = .ok (.iload_n 1, 1) := by decide +kernel
theorem dX11_nights_16 : decode cX11_nights 16 = .ok (.iload_n 2, 1) := by decide +kernel
theorem dX11_nights_17 : decode cX11_nights 17 = .ok (.iload 5, 2) := by decide +kernel
theorem dX11_nights_19 : decode cX11_nights 19 = .ok (.iadd, 1) := by decide +kernel
theorem dX11_nights_20 : decode cX11_nights 20 = .ok (.invokevirtual 156, 3) := by decide +kernel
theorem dX11_nights_23 : decode cX11_nights 23 = .ok (.iadd, 1) := by decide +kernel
theorem dX11_nights_24 : decode cX11_nights 24 = .ok (.istore 4, 2) := by decide +kernel
theorem dX11_nights_26 : decode cX11_nights 26 = .ok (.iinc 5 1, 3) := by decide +kernel
theorem dX11_nights_29 : decode cX11_nights 29 = .ok (.goto (-23), 3) := by decide +kernel
theorem dX11_nights_32 : decode cX11_nights 32 = .ok (.iload 4, 2) := by decide +kernel
theorem dX11_nights_34 : decode cX11_nights 34 = .ok (.ireturn, 1) := by decide +kernel
theorem dX11_tries_0 : decode cX11_tries 0 = .ok (.iconst 0, 1) := by decide +kernel
theorem dX11_tries_1 : decode cX11_tries 1 = .ok (.istore_n 1, 1) := by decide +kernel
theorem dX11_tries_2 : decode cX11_tries 2 = .ok (.iload_n 1, 1) := by decide +kernel
theorem dX11_tries_3 : decode cX11_tries 3 = .ok (.bipush 8, 2) := by decide +kernel
theorem dX11_tries_5 : decode cX11_tries 5 = .ok (.if_icmp .ge 21, 3) := by decide +kernel
theorem dX11_tries_8 : decode cX11_tries 8 = .ok (.aload_n 0, 1) := by decide +kernel
theorem dX11_tries_9 : decode cX11_tries 9 = .ok (.getfield 57, 3) := by decide +kernel
theorem dX11_tries_12 : decode cX11_tries 12 = .ok (.iload_n 1, 1) := by decide +kernel
theorem dX11_tries_13 : decode cX11_tries 13 = .ok (.aload_n 0, 1) := by decide +kernel
theorem dX11_tries_14 : decode cX11_tries 14 = .ok (.getfield 48, 3) := by decide +kernel
theorem dX11_tries_17 : decode cX11_tries 17 = .ok (.iload_n 1, 1) := by decide +kernel
theorem dX11_tries_18 : decode cX11_tries 18 = .ok (.iaload, 1) := by decide +kernel
theorem dX11_tries_19 : decode cX11_tries 19 = .ok (.iastore, 1) := by decide +kernel
theorem dX11_tries_20 : decode cX11_tries 20 = .ok (.iinc 1 1, 3) := by decide +kernel
theorem dX11_tries_23 : decode cX11_tries 23 = .ok (.goto (-21), 3) := by decide +kernel
theorem dX11_tries_26 : decode cX11_tries 26 = .ok (.aload_n 0, 1) := by decide +kernel
theorem dX11_tries_27 : decode cX11_tries 27 = .ok (.getfield 63, 3) := by decide +kernel
theorem dX11_tries_30 : decode cX11_tries 30 = .ok (.iconst 0, 1) := by decide +kernel
theorem dX11_tries_31 : decode cX11_tries 31 = .ok (.iconst 0, 1) := by decide +kernel
theorem dX11_tries_32 : decode cX11_tries 32 = .ok (.iastore, 1) := by decide +kernel
theorem dX11_tries_33 : decode cX11_tries 33 = .ok (.aload_n 0, 1) := by decide +kernel
theorem dX11_tries_34 : decode cX11_tries 34 = .ok (.getfield 63, 3) := by decide +kernel
theorem dX11_tries_37 : decode cX11_tries 37 = .ok (.iconst 1, 1) := by decide +kernel
theorem dX11_tries_38 : decode cX11_tries 38 = .ok (.iconst 0, 1) := by decide +kernel
theorem dX11_tries_39 : decode cX11_tries 39 = .ok (.iastore, 1) := by decide +kernel
theorem dX11_tries_40 : decode cX11_tries 40 = .ok (.return_, 1) := by decide +kernel
theorem dX11_night_0 : decode cX11_night 0 = .ok (.aload_n 0, 1) := by decide +kernel
theorem dX11_night_1 : decode cX11_night 1 = .ok (.invokevirtual 160, 3) := by decide +kernel
theorem dX11_night_4 : decode cX11_night 4 = .ok (.aload_n 0, 1) := by decide +kernel
theorem dX11_night_5 : decode cX11_night 5 = .ok (.aload_n 0, 1) := by decide +kernel
theorem dX11_night_6 : decode cX11_night 6 = .ok (.getfield 23, 3) := by decide +kernel
theorem dX11_night_9 : decode cX11_night 9 = .ok (.iconst 1, 1) := by decide +kernel
theorem dX11_night_10 : decode cX11_night 10 = .ok (.iaload, 1) := by decide +kernel
theorem dX11_night_11 : decode cX11_night 11 = .ok (.aload_n 0, 1) := by decide +kernel
theorem dX11_night_12 : decode cX11_night 12 = .ok (.getfield 136, 3) := by decide +kernel
theorem dX11_night_15 : decode cX11_night 15 = .ok (.invokevirtual 156, 3) := by decide +kernel
theorem dX11_night_18 : decode cX11_night 18 = .ok (.istore_n 1, 1) := by decide +kernel
theorem dX11_night_19 : decode cX11_night 19 = .ok (.iconst 0, 1) := by decide +kernel
theorem dX11_night_20 : decode cX11_night 20 = .ok (.istore_n 2, 1) := by decide +kernel
theorem dX11_night_21 : decode cX11_night 21 = .ok (.iload_n 2, 1) := by decide +kernel
theorem dX11_night_22 : decode cX11_night 22 = .ok (.bipush 8, 2) := by decide +kernel
theorem dX11_night_24 : decode cX11_night 24 = .ok (.if_icmp .ge 21, 3) := by decide +kernel
theorem dX11_night_27 : decode cX11_night 27 = .ok (.aload_n 0, 1) := by decide +kernel
theorem dX11_night_28 : decode cX11_night 28 = .ok (.getfield 48, 3) := by decide +kernel
theorem dX11_night_31 : decode cX11_night 31 = .ok (.iload_n 2, 1) := by decide +kernel
theorem dX11_night_32 : decode cX11_night 32 = .ok (.aload_n 0, 1) := by decide +kernel
theorem dX11_night_33 : decode cX11_night 33 = .ok (.getfield 57, 3) := by decide +kernel
theorem dX11_night_36 : decode cX11_night 36 = .ok (.iload_n 2, 1) := by decide +kernel
theorem dX11_night_37 : decode cX11_night 37 = .ok (.iaload, 1) := by decide +kernel
theorem dX11_night_38 : decode cX11_night 38 = .ok (.iastore, 1) := by decide +kernel
theorem dX11_night_39 : decode cX11_night 39 = .ok (.iinc 2 1, 3) := by decide +kernel
theorem dX11_night_42 : decode cX11_night 42 = .ok (.goto (-21), 3) := by decide +kernel
theorem dX11_night_45 : decode cX11_night 45 = .ok (.aload_n 0, 1) := by decide +kernel
theorem dX11_night_46 : decode cX11_night 46 = .ok (.dup, 1) := by decide +kernel
theorem dX11_night_47 : decode cX11_night 47 = .ok (.getfield 136, 3) := by decide +kernel
theorem dX11_night_50 : decode cX11_night 50 = .ok (.iconst 1, 1) := by decide +kernel
theorem dX11_night_51 : decode cX11_night 51 = .ok (.iadd, 1) := by decide +kernel
theorem dX11_night_52 : decode cX11_night 52 = .ok (.putfield 136, 3) := by decide +kernel
theorem dX11_night_55 : decode cX11_night 55 = .ok (.iload_n 1, 1) := by decide +kernel
theorem dX11_night_56 : decode cX11_night 56 = .ok (.ireturn, 1) := by decide +kernel
theorem dX11_pour_0 : decode cX11_pour 0 = .ok (.aload_n 0, 1) := by decide +kernel
theorem dX11_pour_1 : decode cX11_pour 1 = .ok (.iload_n 1, 1) := by decide +kernel
theorem dX11_pour_2 : decode cX11_pour 2 = .ok (.invokevirtual 149, 3) := by decide +kernel
theorem dX11_pour_5 : decode cX11_pour 5 = .ok (.ifCond .eq 28, 3) := by decide +kernel
theorem dX11_pour_8 : decode cX11_pour 8 = .ok (.aload_n 0, 1) := by decide +kernel
theorem dX11_pour_9 : decode cX11_pour 9 = .ok (.iload_n 2, 1) := by decide +kernel
theorem dX11_pour_10 : decode cX11_pour 10 = .ok (.invokevirtual 149, 3) := by decide +kernel
theorem dX11_pour_13 : decode cX11_pour 13 = .ok (.ifCond .eq 20, 3) := by decide +kernel
theorem dX11_pour_16 : decode cX11_pour 16 = .ok (.iload_n 1, 1) := by decide +kernel
theorem dX11_pour_17 : decode cX11_pour 17 = .ok (.iload_n 2, 1) := by decide +kernel
theorem dX11_pour_18 : decode cX11_pour 18 = .ok (.if_icmp .eq 15, 3) := by decide +kernel
theorem dX11_pour_21 : decode cX11_pour 21 = .ok (.iload_n 3, 1) := by decide +kernel
theorem dX11_pour_22 : decode cX11_pour 22 = .ok (.i2l, 1) := by decide +kernel
theorem dX11_pour_23 : decode cX11_pour 23 = .ok (.lconst 1, 1) := by decide +kernel
theorem dX11_pour_24 : decode cX11_pour 24 = .ok (.ldc2_w 115, 3) := by decide +kernel
theorem dX11_pour_27 : decode cX11_pour 27 = .ok (.invokestatic 86, 3) := by decide +kernel
theorem dX11_pour_30 : decode cX11_pour 30 = .ok (.ifCond .ne 5, 3) := by decide +kernel
theorem dX11_pour_33 : decode cX11_pour 33 = .ok (.iconst (-1), 1) := by decide +kernel
theorem dX11_pour_34 : decode cX11_pour 34 = .ok (.ireturn, 1) := by decide +kernel
theorem dX11_pour_35 : decode cX11_pour 35 = .ok (.aload_n 0, 1) := by decide +kernel
theorem dX11_pour_36 : decode cX11_pour 36 = .ok (.getfield 48, 3) := by decide +kernel
theorem dX11_pour_39 : decode cX11_pour 39 = .ok (.iload_n 1, 1) := by decide +kernel
theorem dX11_pour_40 : decode cX11_pour 40 = .ok (.iaload, 1) := by decide +kernel
theorem dX11_pour_41 : decode cX11_pour 41 = .ok (.iload_n 3, 1) := by decide +kernel
theorem dX11_pour_42 : decode cX11_pour 42 = .ok (.if_icmp .lt 17, 3) := by decide +kernel
theorem dX11_pour_45 : decode cX11_pour 45 = .ok (.aload_n 0, 1) := by decide +kernel
theorem dX11_pour_46 : decode cX11_pour 46 = .ok (.getfield 48, 3) := by decide +kernel
theorem dX11_pour_49 : decode cX11_pour 49 = .ok (.iload_n 2, 1) := by decide +kernel
theorem dX11_pour_50 : decode cX11_pour 50 = .ok (.iaload, 1) := by decide +kernel
theorem dX11_pour_51 : decode cX11_pour 51 = .ok (.iload_n 3, 1) := by decide +kernel
theorem dX11_pour_52 : decode cX11_pour 52 = .ok (.iadd, 1) := by decide +kernel
theorem dX11_pour_53 : decode cX11_pour 53 = .ok (.sipush 199, 3) := by decide +kernel
theorem dX11_pour_56 : decode cX11_pour 56 = .ok (.if_icmp .le 6, 3) := by decide +kernel
theorem dX11_pour_59 : decode cX11_pour 59 = .ok (.bipush (-2), 2) := by decide +kernel
theorem dX11_pour_61 : decode cX11_pour 61 = .ok (.ireturn, 1) := by decide +kernel
theorem dX11_pour_62 : decode cX11_pour 62 = .ok (.aload_n 0, 1) := by decide +kernel
theorem dX11_pour_63 : decode cX11_pour 63 = .ok (.getfield 48, 3) := by decide +kernel
theorem dX11_pour_66 : decode cX11_pour 66 = .ok (.iload_n 1, 1) := by decide +kernel
theorem dX11_pour_67 : decode cX11_pour 67 = .ok (.dup2, 1) := by decide +kernel
theorem dX11_pour_68 : decode cX11_pour 68 = .ok (.iaload, 1) := by decide +kernel
theorem dX11_pour_69 : decode cX11_pour 69 = .ok (.iload_n 3, 1) := by decide +kernel
theorem dX11_pour_70 : decode cX11_pour 70 = .ok (.isub, 1) := by decide +kernel
theorem dX11_pour_71 : decode cX11_pour 71 = .ok (.iastore, 1) := by decide +kernel
theorem dX11_pour_72 : decode cX11_pour 72 = .ok (.aload_n 0, 1) := by decide +kernel
theorem dX11_pour_73 : decode cX11_pour 73 = .ok (.getfield 48, 3) := by decide +kernel
theorem dX11_pour_76 : decode cX11_pour 76 = .ok (.iload_n 2, 1) := by decide +kernel
theorem dX11_pour_77 : decode cX11_pour 77 = .ok (.dup2, 1) := by decide +kernel
theorem dX11_pour_78 : decode cX11_pour 78 = .ok (.iaload, 1) := by decide +kernel
theorem dX11_pour_79 : decode cX11_pour 79 = .ok (.iload_n 3, 1) := by decide +kernel
theorem dX11_pour_80 : decode cX11_pour 80 = .ok (.iadd, 1) := by decide +kernel
theorem dX11_pour_81 : decode cX11_pour 81 = .ok (.iastore, 1) := by decide +kernel
theorem dX11_pour_82 : decode cX11_pour 82 = .ok (.aload_n 0, 1) := by decide +kernel
theorem dX11_pour_83 : decode cX11_pour 83 = .ok (.getfield 48, 3) := by decide +kernel
theorem dX11_pour_86 : decode cX11_pour 86 = .ok (.iload_n 2, 1) := by decide +kernel
theorem dX11_pour_87 : decode cX11_pour 87 = .ok (.iaload, 1) := by decide +kernel
theorem dX11_pour_88 : decode cX11_pour 88 = .ok (.ireturn, 1) := by decide +kernel
theorem dX11_isLong_0 : decode cX11_isLong 0 = .ok (.iload_n 0, 1) := by decide +kernel
theorem dX11_isLong_1 : decode cX11_isLong 1 = .ok (.i2l, 1) := by decide +kernel
theorem dX11_isLong_2 : decode cX11_isLong 2 = .ok (.lconst 0, 1) := by decide +kernel
theorem dX11_isLong_3 : decode cX11_isLong 3 = .ok (.ldc2_w 121, 3) := by decide +kernel
theorem dX11_isLong_6 : decode cX11_isLong 6 = .ok (.invokestatic 86, 3) := by decide +kernel
theorem dX11_isLong_9 : decode cX11_isLong 9 = .ok (.ireturn, 1) := by decide +kernel
theorem dX11_left_0 : decode cX11_left 0 = .ok (.aload_n 0, 1) := by decide +kernel
theorem dX11_left_1 : decode cX11_left 1 = .ok (.iload_n 1, 1) := by decide +kernel
theorem dX11_left_2 : decode cX11_left 2 = .ok (.invokevirtual 149, 3) := by decide +kernel
theorem dX11_left_5 : decode cX11_left 5 = .ok (.ifCond .eq 10, 3) := by decide +kernel
theorem dX11_left_8 : decode cX11_left 8 = .ok (.iload_n 2, 1) := by decide +kernel
theorem dX11_left_9 : decode cX11_left 9 = .ok (.invokestatic 163, 3) := by decide +kernel
theorem dX11_left_12 : decode cX11_left 12 = .ok (.ifCond .ne 5, 3) := by decide +kernel
theorem dX11_left_15 : decode cX11_left 15 = .ok (.iconst (-1), 1) := by decide +kernel
theorem dX11_left_16 : decode cX11_left 16 = .ok (.ireturn, 1) := by decide +kernel
theorem dX11_left_17 : decode cX11_left 17 = .ok (.aload_n 0, 1) := by decide +kernel
theorem dX11_left_18 : decode cX11_left 18 = .ok (.invokevirtual 160, 3) := by decide +kernel
theorem dX11_left_21 : decode cX11_left 21 = .ok (.aload_n 0, 1) := by decide +kernel
theorem dX11_left_22 : decode cX11_left 22 = .ok (.aload_n 0, 1) := by decide +kernel
theorem dX11_left_23 : decode cX11_left 23 = .ok (.getfield 23, 3) := by decide +kernel
theorem dX11_left_26 : decode cX11_left 26 = .ok (.iconst 1, 1) := by decide +kernel
theorem dX11_left_27 : decode cX11_left 27 = .ok (.iaload, 1) := by decide +kernel
theorem dX11_left_28 : decode cX11_left 28 = .ok (.aload_n 0, 1) := by decide +kernel
theorem dX11_left_29 : decode cX11_left 29 = .ok (.getfield 136, 3) := by decide +kernel
theorem dX11_left_32 : decode cX11_left 32 = .ok (.iload_n 2, 1) := by decide +kernel
theorem dX11_left_33 : decode cX11_left 33 = .ok (.invokevirtual 166, 3) := by decide +kernel
theorem dX11_left_36 : decode cX11_left 36 = .ok (.istore_n 3, 1) := by decide +kernel
theorem dX11_left_37 : decode cX11_left 37 = .ok (.iload_n 3, 1) := by decide +kernel
theorem dX11_left_38 : decode cX11_left 38 = .ok (.ifCond .ge 7, 3) := by decide +kernel
theorem dX11_left_41 : decode cX11_left 41 = .ok (.iconst (-1), 1) := by decide +kernel
theorem dX11_left_42 : decode cX11_left 42 = .ok (.goto 9, 3) := by decide +kernel
theorem dX11_left_45 : decode cX11_left 45 = .ok (.aload_n 0, 1) := by decide +kernel
theorem dX11_left_46 : decode cX11_left 46 = .ok (.getfield 57, 3) := by decide +kernel
theorem dX11_left_49 : decode cX11_left 49 = .ok (.iload_n 1, 1) := by decide +kernel
theorem dX11_left_50 : decode cX11_left 50 = .ok (.iaload, 1) := by decide +kernel
theorem dX11_left_51 : decode cX11_left 51 = .ok (.ireturn, 1) := by decide +kernel
theorem dX11_lost_0 : decode cX11_lost 0 = .ok (.iload_n 1, 1) := by decide +kernel
theorem dX11_lost_1 : decode cX11_lost 1 = .ok (.invokestatic 163, 3) := by decide +kernel
theorem dX11_lost_4 : decode cX11_lost 4 = .ok (.ifCond .eq 15, 3) := by decide +kernel
theorem dX11_lost_7 : decode cX11_lost 7 = .ok (.iload_n 2, 1) := by decide +kernel
theorem dX11_lost_8 : decode cX11_lost 8 = .ok (.i2l, 1) := by decide +kernel
theorem dX11_lost_9 : decode cX11_lost 9 = .ok (.ldc2_w 169, 3) := by decide +kernel
theorem dX11_lost_12 : decode cX11_lost 12 = .ok (.lconst 1, 1) := by decide +kernel
theorem dX11_lost_13 : decode cX11_lost 13 = .ok (.invokestatic 86, 3) := by decide +kernel
theorem dX11_lost_16 : decode cX11_lost 16 = .ok (.ifCond .ne 5, 3) := by decide +kernel
theorem dX11_lost_19 : decode cX11_lost 19 = .ok (.iconst (-1), 1) := by decide +kernel
theorem dX11_lost_20 : decode cX11_lost 20 = .ok (.ireturn, 1) := by decide +kernel
theorem dX11_lost_21 : decode cX11_lost 21 = .ok (.aload_n 0, 1) := by decide +kernel
theorem dX11_lost_22 : decode cX11_lost 22 = .ok (.invokevirtual 160, 3) := by decide +kernel
theorem dX11_lost_25 : decode cX11_lost 25 = .ok (.aload_n 0, 1) := by decide +kernel
theorem dX11_lost_26 : decode cX11_lost 26 = .ok (.aload_n 0, 1) := by decide +kernel
theorem dX11_lost_27 : decode cX11_lost 27 = .ok (.getfield 23, 3) := by decide +kernel
theorem dX11_lost_30 : decode cX11_lost 30 = .ok (.iconst 1, 1) := by decide +kernel
theorem dX11_lost_31 : decode cX11_lost 31 = .ok (.iaload, 1) := by decide +kernel
theorem dX11_lost_32 : decode cX11_lost 32 = .ok (.aload_n 0, 1) := by decide +kernel
theorem dX11_lost_33 : decode cX11_lost 33 = .ok (.getfield 136, 3) := by decide +kernel
theorem dX11_lost_36 : decode cX11_lost 36 = .ok (.iload_n 1, 1) := by decide +kernel
theorem dX11_lost_37 : decode cX11_lost 37 = .ok (.invokevirtual 166, 3) := by decide +kernel
theorem dX11_lost_40 : decode cX11_lost 40 = .ok (.istore_n 3, 1) := by decide +kernel
theorem dX11_lost_41 : decode cX11_lost 41 = .ok (.iload_n 2, 1) := by decide +kernel
theorem dX11_lost_42 : decode cX11_lost 42 = .ok (.ifCond .ge 7, 3) := by decide +kernel
theorem dX11_lost_45 : decode cX11_lost 45 = .ok (.iload_n 3, 1) := by decide +kernel
theorem dX11_lost_46 : decode cX11_lost 46 = .ok (.goto 9, 3) := by decide +kernel
theorem dX11_lost_49 : decode cX11_lost 49 = .ok (.aload_n 0, 1) := by decide +kernel
theorem dX11_lost_50 : decode cX11_lost 50 = .ok (.getfield 63, 3) := by decide +kernel
theorem dX11_lost_53 : decode cX11_lost 53 = .ok (.iload_n 2, 1) := by decide +kernel
theorem dX11_lost_54 : decode cX11_lost 54 = .ok (.iaload, 1) := by decide +kernel
theorem dX11_lost_55 : decode cX11_lost 55 = .ok (.ireturn, 1) := by decide +kernel
theorem dX11_follows_0 : decode cX11_follows 0 = .ok (.aload_n 0, 1) := by decide +kernel
theorem dX11_follows_1 : decode cX11_follows 1 = .ok (.getfield 13, 3) := by decide +kernel
theorem dX11_follows_4 : decode cX11_follows 4 = .ok (.iconst 0, 1) := by decide +kernel
theorem dX11_follows_5 : decode cX11_follows 5 = .ok (.iaload, 1) := by decide +kernel
theorem dX11_follows_6 : decode cX11_follows 6 = .ok (.iconst 2, 1) := by decide +kernel
theorem dX11_follows_7 : decode cX11_follows 7 = .ok (.isub, 1) := by decide +kernel
theorem dX11_follows_8 : decode cX11_follows 8 = .ok (.istore_n 1, 1) := by decide +kernel
theorem dX11_follows_9 : decode cX11_follows 9 = .ok (.iload_n 1, 1) := by decide +kernel
theorem dX11_follows_10 : decode cX11_follows 10 = .ok (.ifCond .lt 26, 3) := by decide +kernel
theorem dX11_follows_13 : decode cX11_follows 13 = .ok (.aload_n 0, 1) := by decide +kernel
theorem dX11_follows_14 : decode cX11_follows 14 = .ok (.getfield 66, 3) := by decide +kernel
theorem dX11_follows_17 : decode cX11_follows 17 = .ok (.iload_n 1, 1) := by decide +kernel
theorem dX11_follows_18 : decode cX11_follows 18 = .ok (.iaload, 1) := by decide +kernel
theorem dX11_follows_19 : decode cX11_follows 19 = .ok (.aload_n 0, 1) := by decide +kernel
theorem dX11_follows_20 : decode cX11_follows 20 = .ok (.getfield 66, 3) := by decide +kernel
theorem dX11_follows_23 : decode cX11_follows 23 = .ok (.iload_n 1, 1) := by decide +kernel
theorem dX11_follows_24 : decode cX11_follows 24 = .ok (.iconst 1, 1) := by decide +kernel
theorem dX11_follows_25 : decode cX11_follows 25 = .ok (.iadd, 1) := by decide +kernel
theorem dX11_follows_26 : decode cX11_follows 26 = .ok (.iaload, 1) := by decide +kernel
theorem dX11_follows_27 : decode cX11_follows 27 = .ok (.if_icmp .lt 9, 3) := by decide +kernel
theorem dX11_follows_30 : decode cX11_follows 30 = .ok (.iinc 1 (-1), 3) := by decide +kernel
theorem dX11_follows_33 : decode cX11_follows 33 = .ok (.goto (-24), 3) := by decide +kernel
theorem dX11_follows_36 : decode cX11_follows 36 = .ok (.iload_n 1, 1) := by decide +kernel
theorem dX11_follows_37 : decode cX11_follows 37 = .ok (.ifCond .ge 5, 3) := by decide +kernel
theorem dX11_follows_40 : decode cX11_follows 40 = .ok (.iconst 0, 1) := by decide +kernel
theorem dX11_follows_41 : decode cX11_follows 41 = .ok (.ireturn, 1) := by decide +kernel
theorem dX11_follows_42 : decode cX11_follows 42 = .ok (.aload_n 0, 1) := by decide +kernel
theorem dX11_follows_43 : decode cX11_follows 43 = .ok (.getfield 13, 3) := by decide +kernel
theorem dX11_follows_46 : decode cX11_follows 46 = .ok (.iconst 0, 1) := by decide +kernel
theorem dX11_follows_47 : decode cX11_follows 47 = .ok (.iaload, 1) := by decide +kernel
theorem dX11_follows_48 : decode cX11_follows 48 = .ok (.iconst 1, 1) := by decide +kernel
theorem dX11_follows_49 : decode cX11_follows 49 = .ok (.isub, 1) := by decide +kernel
theorem dX11_follows_50 : decode cX11_follows 50 = .ok (.istore_n 2, 1) := by decide +kernel
theorem dX11_follows_51 : decode cX11_follows 51 = .ok (.aload_n 0, 1) := by decide +kernel
theorem dX11_follows_52 : decode cX11_follows 52 = .ok (.getfield 66, 3) := by decide +kernel
theorem dX11_follows_55 : decode cX11_follows 55 = .ok (.iload_n 2, 1) := by decide +kernel
theorem dX11_follows_56 : decode cX11_follows 56 = .ok (.iaload, 1) := by decide +kernel
theorem dX11_follows_57 : decode cX11_follows 57 = .ok (.aload_n 0, 1) := by decide +kernel
theorem dX11_follows_58 : decode cX11_follows 58 = .ok (.getfield 66, 3) := by decide +kernel
theorem dX11_follows_61 : decode cX11_follows 61 = .ok (.iload_n 1, 1) := by decide +kernel
theorem dX11_follows_62 : decode cX11_follows 62 = .ok (.iaload, 1) := by decide +kernel
theorem dX11_follows_63 : decode cX11_follows 63 = .ok (.if_icmp .gt 9, 3) := by decide +kernel
theorem dX11_follows_66 : decode cX11_follows 66 = .ok (.iinc 2 (-1), 3) := by decide +kernel
theorem dX11_follows_69 : decode cX11_follows 69 = .ok (.goto (-18), 3) := by decide +kernel
theorem dX11_follows_72 : decode cX11_follows 72 = .ok (.aload_n 0, 1) := by decide +kernel
theorem dX11_follows_73 : decode cX11_follows 73 = .ok (.iload_n 1, 1) := by decide +kernel
theorem dX11_follows_74 : decode cX11_follows 74 = .ok (.iload_n 2, 1) := by decide +kernel
theorem dX11_follows_75 : decode cX11_follows 75 = .ok (.invokevirtual 171, 3) := by decide +kernel
theorem dX11_follows_78 : decode cX11_follows 78 = .ok (.iload_n 1, 1) := by decide +kernel
theorem dX11_follows_79 : decode cX11_follows 79 = .ok (.iconst 1, 1) := by decide +kernel
theorem dX11_follows_80 : decode cX11_follows 80 = .ok (.iadd, 1) := by decide +kernel
theorem dX11_follows_81 : decode cX11_follows 81 = .ok (.istore_n 3, 1) := by decide +kernel
theorem dX11_follows_82 : decode cX11_follows 82 = .ok (.aload_n 0, 1) := by decide +kernel
theorem dX11_follows_83 : decode cX11_follows 83 = .ok (.getfield 13, 3) := by decide +kernel
theorem dX11_follows_86 : decode cX11_follows 86 = .ok (.iconst 0, 1) := by decide +kernel
theorem dX11_follows_87 : decode cX11_follows 87 = .ok (.iaload, 1) := by decide +kernel
theorem dX11_follows_88 : decode cX11_follows 88 = .ok (.iconst 1, 1) := by decide +kernel
theorem dX11_follows_89 : decode cX11_follows 89 = .ok (.isub, 1) := by decide +kernel
theorem dX11_follows_90 : decode cX11_follows 90 = .ok (.istore 4, 2) := by decide +kernel
theorem dX11_follows_92 : decode cX11_follows 92 = .ok (.iload_n 3, 1) := by decide +kernel
theorem dX11_follows_93 : decode cX11_follows 93 = .ok (.iload 4, 2) := by decide +kernel
theorem dX11_follows_95 : decode cX11_follows 95 = .ok (.if_icmp .ge 19, 3) := by decide +kernel
theorem dX11_follows_98 : decode cX11_follows 98 = .ok (.aload_n 0, 1) := by decide +kernel
theorem dX11_follows_99 : decode cX11_follows 99 = .ok (.iload_n 3, 1) := by decide +kernel
theorem dX11_follows_100 : decode cX11_follows 100 = .ok (.iload 4, 2) := by decide +kernel
theorem dX11_follows_102 : decode cX11_follows 102 = .ok (.invokevirtual 171, 3) := by decide +kernel
theorem dX11_follows_105 : decode cX11_follows 105 = .ok (.iinc 3 1, 3) := by decide +kernel
theorem dX11_follows_108 : decode cX11_follows 108 = .ok (.iinc 4 (-1), 3) := by decide +kernel
theorem dX11_follows_111 : decode cX11_follows 111 = .ok (.goto (-19), 3) := by decide +kernel
theorem dX11_follows_114 : decode cX11_follows 114 = .ok (.iconst 1, 1) := by decide +kernel
theorem dX11_follows_115 : decode cX11_follows 115 = .ok (.ireturn, 1) := by decide +kernel
theorem dX11_swaps_0 : decode cX11_swaps 0 = .ok (.aload_n 0, 1) := by decide +kernel
theorem dX11_swaps_1 : decode cX11_swaps 1 = .ok (.getfield 66, 3) := by decide +kernel
theorem dX11_swaps_4 : decode cX11_swaps 4 = .ok (.iload_n 1, 1) := by decide +kernel
theorem dX11_swaps_5 : decode cX11_swaps 5 = .ok (.iaload, 1) := by decide +kernel
theorem dX11_swaps_6 : decode cX11_swaps 6 = .ok (.istore_n 3, 1) := by decide +kernel
theorem dX11_swaps_7 : decode cX11_swaps 7 = .ok (.aload_n 0, 1) := by decide +kernel
theorem dX11_swaps_8 : decode cX11_swaps 8 = .ok (.getfield 66, 3) := by decide +kernel
theorem dX11_swaps_11 : decode cX11_swaps 11 = .ok (.iload_n 1, 1) := by decide +kernel
theorem dX11_swaps_12 : decode cX11_swaps 12 = .ok (.aload_n 0, 1) := by decide +kernel
theorem dX11_swaps_13 : decode cX11_swaps 13 = .ok (.getfield 66, 3) := by decide +kernel
theorem dX11_swaps_16 : decode cX11_swaps 16 = .ok (.iload_n 2, 1) := by decide +kernel
theorem dX11_swaps_17 : decode cX11_swaps 17 = .ok (.iaload, 1) := by decide +kernel
theorem dX11_swaps_18 : decode cX11_swaps 18 = .ok (.iastore, 1) := by decide +kernel
theorem dX11_swaps_19 : decode cX11_swaps 19 = .ok (.aload_n 0, 1) := by decide +kernel
theorem dX11_swaps_20 : decode cX11_swaps 20 = .ok (.getfield 66, 3) := by decide +kernel
theorem dX11_swaps_23 : decode cX11_swaps 23 = .ok (.iload_n 2, 1) := by decide +kernel
theorem dX11_swaps_24 : decode cX11_swaps 24 = .ok (.iload_n 3, 1) := by decide +kernel
theorem dX11_swaps_25 : decode cX11_swaps 25 = .ok (.iastore, 1) := by decide +kernel
theorem dX11_swaps_26 : decode cX11_swaps 26 = .ok (.return_, 1) := by decide +kernel
theorem dX11_order_0 : decode cX11_order 0 = .ok (.iload_n 1, 1) := by decide +kernel
theorem dX11_order_1 : decode cX11_order 1 = .ok (.i2l, 1) := by decide +kernel
theorem dX11_order_2 : decode cX11_order 2 = .ok (.lconst 1, 1) := by decide +kernel
theorem dX11_order_3 : decode cX11_order 3 = .ok (.ldc2_w 175, 3) := by decide +kernel
theorem dX11_order_6 : decode cX11_order 6 = .ok (.invokestatic 86, 3) := by decide +kernel
theorem dX11_order_9 : decode cX11_order 9 = .ok (.ifCond .eq 23, 3) := by decide +kernel
theorem dX11_order_12 : decode cX11_order 12 = .ok (.iload_n 2, 1) := by decide +kernel
theorem dX11_order_13 : decode cX11_order 13 = .ok (.i2l, 1) := by decide +kernel
theorem dX11_order_14 : decode cX11_order 14 = .ok (.ldc2_w 169, 3) := by decide +kernel
theorem dX11_order_17 : decode cX11_order 17 = .ok (.aload_n 0, 1) := by decide +kernel
theorem dX11_order_18 : decode cX11_order 18 = .ok (.getfield 13, 3) := by decide +kernel
theorem dX11_order_21 : decode cX11_order 21 = .ok (.iconst 0, 1) := by decide +kernel
theorem dX11_order_22 : decode cX11_order 22 = .ok (.iaload, 1) := by decide +kernel
theorem dX11_order_23 : decode cX11_order 23 = .ok (.iconst 1, 1) := by decide +kernel
theorem dX11_order_24 : decode cX11_order 24 = .ok (.isub, 1) := by decide +kernel
theorem dX11_order_25 : decode cX11_order 25 = .ok (.i2l, 1) := by decide +kernel
theorem dX11_order_26 : decode cX11_order 26 = .ok (.invokestatic 86, 3) := by decide +kernel
theorem dX11_order_29 : decode cX11_order 29 = .ok (.ifCond .ne 5, 3) := by decide +kernel
theorem dX11_order_32 : decode cX11_order 32 = .ok (.iconst (-1), 1) := by decide +kernel
theorem dX11_order_33 : decode cX11_order 33 = .ok (.ireturn, 1) := by decide +kernel
theorem dX11_order_34 : decode cX11_order 34 = .ok (.iconst 0, 1) := by decide +kernel
theorem dX11_order_35 : decode cX11_order 35 = .ok (.istore_n 3, 1) := by decide +kernel
theorem dX11_order_36 : decode cX11_order 36 = .ok (.iload_n 3, 1) := by decide +kernel
theorem dX11_order_37 : decode cX11_order 37 = .ok (.aload_n 0, 1) := by decide +kernel
theorem dX11_order_38 : decode cX11_order 38 = .ok (.getfield 13, 3) := by decide +kernel
theorem dX11_order_41 : decode cX11_order 41 = .ok (.iconst 0, 1) := by decide +kernel
theorem dX11_order_42 : decode cX11_order 42 = .ok (.iaload, 1) := by decide +kernel
theorem dX11_order_43 : decode cX11_order 43 = .ok (.if_icmp .ge 21, 3) := by decide +kernel
theorem dX11_order_46 : decode cX11_order 46 = .ok (.aload_n 0, 1) := by decide +kernel
theorem dX11_order_47 : decode cX11_order 47 = .ok (.getfield 66, 3) := by decide +kernel
theorem dX11_order_50 : decode cX11_order 50 = .ok (.iload_n 3, 1) := by decide +kernel
theorem dX11_order_51 : decode cX11_order 51 = .ok (.aload_n 0, 1) := by decide +kernel
theorem dX11_order_52 : decode cX11_order 52 = .ok (.getfield 48, 3) := by decide +kernel
theorem dX11_order_55 : decode cX11_order 55 = .ok (.iload_n 3, 1) := by decide +kernel
theorem dX11_order_56 : decode cX11_order 56 = .ok (.iaload, 1) := by decide +kernel
theorem dX11_order_57 : decode cX11_order 57 = .ok (.iastore, 1) := by decide +kernel
theorem dX11_order_58 : decode cX11_order 58 = .ok (.iinc 3 1, 3) := by decide +kernel
theorem dX11_order_61 : decode cX11_order 61 = .ok (.goto (-25), 3) := by decide +kernel
theorem dX11_order_64 : decode cX11_order 64 = .ok (.iconst 0, 1) := by decide +kernel
theorem dX11_order_65 : decode cX11_order 65 = .ok (.istore_n 3, 1) := by decide +kernel
theorem dX11_order_66 : decode cX11_order 66 = .ok (.iload_n 3, 1) := by decide +kernel
theorem dX11_order_67 : decode cX11_order 67 = .ok (.aload_n 0, 1) := by decide +kernel
theorem dX11_order_68 : decode cX11_order 68 = .ok (.getfield 13, 3) := by decide +kernel
theorem dX11_order_71 : decode cX11_order 71 = .ok (.iconst 0, 1) := by decide +kernel
theorem dX11_order_72 : decode cX11_order 72 = .ok (.iaload, 1) := by decide +kernel
theorem dX11_order_73 : decode cX11_order 73 = .ok (.if_icmp .ge 54, 3) := by decide +kernel
theorem dX11_order_76 : decode cX11_order 76 = .ok (.iload_n 3, 1) := by decide +kernel
theorem dX11_order_77 : decode cX11_order 77 = .ok (.iconst 1, 1) := by decide +kernel
theorem dX11_order_78 : decode cX11_order 78 = .ok (.iadd, 1) := by decide +kernel
theorem dX11_order_79 : decode cX11_order 79 = .ok (.istore 4, 2) := by decide +kernel
theorem dX11_order_81 : decode cX11_order 81 = .ok (.iload 4, 2) := by decide +kernel
theorem dX11_order_83 : decode cX11_order 83 = .ok (.aload_n 0, 1) := by decide +kernel
theorem dX11_order_84 : decode cX11_order 84 = .ok (.getfield 13, 3) := by decide +kernel
theorem dX11_order_87 : decode cX11_order 87 = .ok (.iconst 0, 1) := by decide +kernel
theorem dX11_order_88 : decode cX11_order 88 = .ok (.iaload, 1) := by decide +kernel
theorem dX11_order_89 : decode cX11_order 89 = .ok (.if_icmp .ge 32, 3) := by decide +kernel
theorem dX11_order_92 : decode cX11_order 92 = .ok (.aload_n 0, 1) := by decide +kernel
theorem dX11_order_93 : decode cX11_order 93 = .ok (.getfield 66, 3) := by decide +kernel
theorem dX11_order_96 : decode cX11_order 96 = .ok (.iload 4, 2) := by decide +kernel
theorem dX11_order_98 : decode cX11_order 98 = .ok (.iaload, 1) := by decide +kernel
theorem dX11_order_99 : decode cX11_order 99 = .ok (.aload_n 0, 1) := by decide +kernel
theorem dX11_order_100 : decode cX11_order 100 = .ok (.getfield 66, 3) := by decide +kernel
theorem dX11_order_103 : decode cX11_order 103 = .ok (.iload_n 3, 1) := by decide +kernel
theorem dX11_order_104 : decode cX11_order 104 = .ok (.iaload, 1) := by decide +kernel
theorem dX11_order_105 : decode cX11_order 105 = .ok (.if_icmp .ge 10, 3) := by decide +kernel
theorem dX11_order_108 : decode cX11_order 108 = .ok (.aload_n 0, 1) := by decide +kernel
theorem dX11_order_109 : decode cX11_order 109 = .ok (.iload_n 3, 1) := by decide +kernel
theorem dX11_order_110 : decode cX11_order 110 = .ok (.iload 4, 2) := by decide +kernel
theorem dX11_order_112 : decode cX11_order 112 = .ok (.invokevirtual 171, 3) := by decide +kernel
theorem dX11_order_115 : decode cX11_order 115 = .ok (.iinc 4 1, 3) := by decide +kernel
theorem dX11_order_118 : decode cX11_order 118 = .ok (.goto (-37), 3) := by decide +kernel
theorem dX11_order_121 : decode cX11_order 121 = .ok (.iinc 3 1, 3) := by decide +kernel
theorem dX11_order_124 : decode cX11_order 124 = .ok (.goto (-58), 3) := by decide +kernel
theorem dX11_order_127 : decode cX11_order 127 = .ok (.iconst (-1), 1) := by decide +kernel
theorem dX11_order_128 : decode cX11_order 128 = .ok (.istore_n 3, 1) := by decide +kernel
theorem dX11_order_129 : decode cX11_order 129 = .ok (.iconst 1, 1) := by decide +kernel
theorem dX11_order_130 : decode cX11_order 130 = .ok (.istore 4, 2) := by decide +kernel
theorem dX11_order_132 : decode cX11_order 132 = .ok (.iload 4, 2) := by decide +kernel
theorem dX11_order_134 : decode cX11_order 134 = .ok (.ifCond .eq 110, 3) := by decide +kernel
theorem dX11_order_137 : decode cX11_order 137 = .ok (.iconst 0, 1) := by decide +kernel
theorem dX11_order_138 : decode cX11_order 138 = .ok (.istore 5, 2) := by decide +kernel
theorem dX11_order_140 : decode cX11_order 140 = .ok (.iload 5, 2) := by decide +kernel
theorem dX11_order_142 : decode cX11_order 142 = .ok (.aload_n 0, 1) := by decide +kernel
theorem dX11_order_143 : decode cX11_order 143 = .ok (.getfield 13, 3) := by decide +kernel
theorem dX11_order_146 : decode cX11_order 146 = .ok (.iconst 0, 1) := by decide +kernel
theorem dX11_order_147 : decode cX11_order 147 = .ok (.iaload, 1) := by decide +kernel
theorem dX11_order_148 : decode cX11_order 148 = .ok (.if_icmp .ge 23, 3) := by decide +kernel
theorem dX11_order_151 : decode cX11_order 151 = .ok (.aload_n 0, 1) := by decide +kernel
theorem dX11_order_152 : decode cX11_order 152 = .ok (.getfield 57, 3) := by decide +kernel
theorem dX11_order_155 : decode cX11_order 155 = .ok (.iload 5, 2) := by decide +kernel
theorem dX11_order_157 : decode cX11_order 157 = .ok (.aload_n 0, 1) := by decide +kernel
theorem dX11_order_158 : decode cX11_order 158 = .ok (.getfield 66, 3) := by decide +kernel
theorem dX11_order_161 : decode cX11_order 161 = .ok (.iload 5, 2) := by decide +kernel
theorem dX11_order_163 : decode cX11_order 163 = .ok (.iaload, 1) := by decide +kernel
theorem dX11_order_164 : decode cX11_order 164 = .ok (.iastore, 1) := by decide +kernel
theorem dX11_order_165 : decode cX11_order 165 = .ok (.iinc 5 1, 3) := by decide +kernel
theorem dX11_order_168 : decode cX11_order 168 = .ok (.goto (-28), 3) := by decide +kernel
theorem dX11_order_171 : decode cX11_order 171 = .ok (.aload_n 0, 1) := by decide +kernel
theorem dX11_order_172 : decode cX11_order 172 = .ok (.aload_n 0, 1) := by decide +kernel
theorem dX11_order_173 : decode cX11_order 173 = .ok (.getfield 23, 3) := by decide +kernel
theorem dX11_order_176 : decode cX11_order 176 = .ok (.iconst 1, 1) := by decide +kernel
theorem dX11_order_177 : decode cX11_order 177 = .ok (.iaload, 1) := by decide +kernel
theorem dX11_order_178 : decode cX11_order 178 = .ok (.aload_n 0, 1) := by decide +kernel
theorem dX11_order_179 : decode cX11_order 179 = .ok (.getfield 136, 3) := by decide +kernel
theorem dX11_order_182 : decode cX11_order 182 = .ok (.iload_n 1, 1) := by decide +kernel
theorem dX11_order_183 : decode cX11_order 183 = .ok (.invokevirtual 166, 3) := by decide +kernel
theorem dX11_order_186 : decode cX11_order 186 = .ok (.istore 5, 2) := by decide +kernel
theorem dX11_order_188 : decode cX11_order 188 = .ok (.iload_n 3, 1) := by decide +kernel
theorem dX11_order_189 : decode cX11_order 189 = .ok (.ifCond .lt 9, 3) := by decide +kernel
theorem dX11_order_192 : decode cX11_order 192 = .ok (.iload 5, 2) := by decide +kernel
theorem dX11_order_194 : decode cX11_order 194 = .ok (.iload_n 3, 1) := by decide +kernel
theorem dX11_order_195 : decode cX11_order 195 = .ok (.if_icmp .ge 40, 3) := by decide +kernel
theorem dX11_order_198 : decode cX11_order 198 = .ok (.iload 5, 2) := by decide +kernel
theorem dX11_order_200 : decode cX11_order 200 = .ok (.istore_n 3, 1) := by decide +kernel
theorem dX11_order_201 : decode cX11_order 201 = .ok (.iconst 0, 1) := by decide +kernel
theorem dX11_order_202 : decode cX11_order 202 = .ok (.istore 6, 2) := by decide +kernel
theorem dX11_order_204 : decode cX11_order 204 = .ok (.iload 6, 2) := by decide +kernel
theorem dX11_order_206 : decode cX11_order 206 = .ok (.aload_n 0, 1) := by decide +kernel
theorem dX11_order_207 : decode cX11_order 207 = .ok (.getfield 13, 3) := by decide +kernel
theorem dX11_order_210 : decode cX11_order 210 = .ok (.iconst 0, 1) := by decide +kernel
theorem dX11_order_211 : decode cX11_order 211 = .ok (.iaload, 1) := by decide +kernel
theorem dX11_order_212 : decode cX11_order 212 = .ok (.if_icmp .ge 23, 3) := by decide +kernel
theorem dX11_order_215 : decode cX11_order 215 = .ok (.aload_n 0, 1) := by decide +kernel
theorem dX11_order_216 : decode cX11_order 216 = .ok (.getfield 69, 3) := by decide +kernel
theorem dX11_order_219 : decode cX11_order 219 = .ok (.iload 6, 2) := by decide +kernel
theorem dX11_order_221 : decode cX11_order 221 = .ok (.aload_n 0, 1) := by decide +kernel
theorem dX11_order_222 : decode cX11_order 222 = .ok (.getfield 66, 3) := by decide +kernel
theorem dX11_order_225 : decode cX11_order 225 = .ok (.iload 6, 2) := by decide +kernel
theorem dX11_order_227 : decode cX11_order 227 = .ok (.iaload, 1) := by decide +kernel
theorem dX11_order_228 : decode cX11_order 228 = .ok (.iastore, 1) := by decide +kernel
theorem dX11_order_229 : decode cX11_order 229 = .ok (.iinc 6 1, 3) := by decide +kernel
theorem dX11_order_232 : decode cX11_order 232 = .ok (.goto (-28), 3) := by decide +kernel
theorem dX11_order_235 : decode cX11_order 235 = .ok (.aload_n 0, 1) := by decide +kernel
theorem dX11_order_236 : decode cX11_order 236 = .ok (.invokevirtual 177, 3) := by decide +kernel
theorem dX11_order_239 : decode cX11_order 239 = .ok (.istore 4, 2) := by decide +kernel
theorem dX11_order_241 : decode cX11_order 241 = .ok (.goto (-109), 3) := by decide +kernel
theorem dX11_order_244 : decode cX11_order 244 = .ok (.iload_n 2, 1) := by decide +kernel
theorem dX11_order_245 : decode cX11_order 245 = .ok (.ifCond .ge 7, 3) := by decide +kernel
theorem dX11_order_248 : decode cX11_order 248 = .ok (.iload_n 3, 1) := by decide +kernel
theorem dX11_order_249 : decode cX11_order 249 = .ok (.goto 9, 3) := by decide +kernel
theorem dX11_order_252 : decode cX11_order 252 = .ok (.aload_n 0, 1) := by decide +kernel
theorem dX11_order_253 : decode cX11_order 253 = .ok (.getfield 69, 3) := by decide +kernel
theorem dX11_order_256 : decode cX11_order 256 = .ok (.iload_n 2, 1) := by decide +kernel
theorem dX11_order_257 : decode cX11_order 257 = .ok (.iaload, 1) := by decide +kernel
theorem dX11_order_258 : decode cX11_order 258 = .ok (.ireturn, 1) := by decide +kernel
theorem dX11_changes_0 : decode cX11_changes 0 = .ok (.aload_n 0, 1) := by decide +kernel
theorem dX11_changes_1 : decode cX11_changes 1 = .ok (.getfield 48, 3) := by decide +kernel
theorem dX11_changes_4 : decode cX11_changes 4 = .ok (.iload_n 1, 1) := by decide +kernel
theorem dX11_changes_5 : decode cX11_changes 5 = .ok (.iaload, 1) := by decide +kernel
theorem dX11_changes_6 : decode cX11_changes 6 = .ok (.istore_n 3, 1) := by decide +kernel
theorem dX11_changes_7 : decode cX11_changes 7 = .ok (.aload_n 0, 1) := by decide +kernel
theorem dX11_changes_8 : decode cX11_changes 8 = .ok (.getfield 48, 3) := by decide +kernel
theorem dX11_changes_11 : decode cX11_changes 11 = .ok (.iload_n 1, 1) := by decide +kernel
theorem dX11_changes_12 : decode cX11_changes 12 = .ok (.aload_n 0, 1) := by decide +kernel
theorem dX11_changes_13 : decode cX11_changes 13 = .ok (.getfield 48, 3) := by decide +kernel
theorem dX11_changes_16 : decode cX11_changes 16 = .ok (.iload_n 2, 1) := by decide +kernel
theorem dX11_changes_17 : decode cX11_changes 17 = .ok (.iaload, 1) := by decide +kernel
theorem dX11_changes_18 : decode cX11_changes 18 = .ok (.iastore, 1) := by decide +kernel
theorem dX11_changes_19 : decode cX11_changes 19 = .ok (.aload_n 0, 1) := by decide +kernel
theorem dX11_changes_20 : decode cX11_changes 20 = .ok (.getfield 48, 3) := by decide +kernel
theorem dX11_changes_23 : decode cX11_changes 23 = .ok (.iload_n 2, 1) := by decide +kernel
theorem dX11_changes_24 : decode cX11_changes 24 = .ok (.iload_n 3, 1) := by decide +kernel
theorem dX11_changes_25 : decode cX11_changes 25 = .ok (.iastore, 1) := by decide +kernel
theorem dX11_changes_26 : decode cX11_changes 26 = .ok (.return_, 1) := by decide +kernel
theorem dX11_lostBy_0 : decode cX11_lostBy 0 = .ok (.aload_n 0, 1) := by decide +kernel
theorem dX11_lostBy_1 : decode cX11_lostBy 1 = .ok (.iload_n 1, 1) := by decide +kernel
theorem dX11_lostBy_2 : decode cX11_lostBy 2 = .ok (.iload_n 2, 1) := by decide +kernel
theorem dX11_lostBy_3 : decode cX11_lostBy 3 = .ok (.invokevirtual 180, 3) := by decide +kernel
theorem dX11_lostBy_6 : decode cX11_lostBy 6 = .ok (.aload_n 0, 1) := by decide +kernel
theorem dX11_lostBy_7 : decode cX11_lostBy 7 = .ok (.invokevirtual 160, 3) := by decide +kernel
theorem dX11_lostBy_10 : decode cX11_lostBy 10 = .ok (.aload_n 0, 1) := by decide +kernel
theorem dX11_lostBy_11 : decode cX11_lostBy 11 = .ok (.aload_n 0, 1) := by decide +kernel
theorem dX11_lostBy_12 : decode cX11_lostBy 12 = .ok (.getfield 23, 3) := by decide +kernel
theorem dX11_lostBy_15 : decode cX11_lostBy 15 = .ok (.iconst 1, 1) := by decide +kernel
theorem dX11_lostBy_16 : decode cX11_lostBy 16 = .ok (.iaload, 1) := by decide +kernel
theorem dX11_lostBy_17 : decode cX11_lostBy 17 = .ok (.aload_n 0, 1) := by decide +kernel
theorem dX11_lostBy_18 : decode cX11_lostBy 18 = .ok (.getfield 136, 3) := by decide +kernel
theorem dX11_lostBy_21 : decode cX11_lostBy 21 = .ok (.invokevirtual 156, 3) := by decide +kernel
theorem dX11_lostBy_24 : decode cX11_lostBy 24 = .ok (.istore 4, 2) := by decide +kernel
theorem dX11_lostBy_26 : decode cX11_lostBy 26 = .ok (.aload_n 0, 1) := by decide +kernel
theorem dX11_lostBy_27 : decode cX11_lostBy 27 = .ok (.iload_n 1, 1) := by decide +kernel
theorem dX11_lostBy_28 : decode cX11_lostBy 28 = .ok (.iload_n 2, 1) := by decide +kernel
theorem dX11_lostBy_29 : decode cX11_lostBy 29 = .ok (.invokevirtual 180, 3) := by decide +kernel
theorem dX11_lostBy_32 : decode cX11_lostBy 32 = .ok (.iload_n 3, 1) := by decide +kernel
theorem dX11_lostBy_33 : decode cX11_lostBy 33 = .ok (.ifCond .ge 8, 3) := by decide +kernel
theorem dX11_lostBy_36 : decode cX11_lostBy 36 = .ok (.iload 4, 2) := by decide +kernel
theorem dX11_lostBy_38 : decode cX11_lostBy 38 = .ok (.goto 9, 3) := by decide +kernel
theorem dX11_lostBy_41 : decode cX11_lostBy 41 = .ok (.aload_n 0, 1) := by decide +kernel
theorem dX11_lostBy_42 : decode cX11_lostBy 42 = .ok (.getfield 63, 3) := by decide +kernel
theorem dX11_lostBy_45 : decode cX11_lostBy 45 = .ok (.iload_n 3, 1) := by decide +kernel
theorem dX11_lostBy_46 : decode cX11_lostBy 46 = .ok (.iaload, 1) := by decide +kernel
theorem dX11_lostBy_47 : decode cX11_lostBy 47 = .ok (.ireturn, 1) := by decide +kernel
theorem dX11_exchanged_0 : decode cX11_exchanged 0 = .ok (.iload_n 1, 1) := by decide +kernel
theorem dX11_exchanged_1 : decode cX11_exchanged 1 = .ok (.i2l, 1) := by decide +kernel
theorem dX11_exchanged_2 : decode cX11_exchanged 2 = .ok (.lconst 0, 1) := by decide +kernel
theorem dX11_exchanged_3 : decode cX11_exchanged 3 = .ok (.lconst 1, 1) := by decide +kernel
theorem dX11_exchanged_4 : decode cX11_exchanged 4 = .ok (.invokestatic 86, 3) := by decide +kernel
theorem dX11_exchanged_7 : decode cX11_exchanged 7 = .ok (.ifCond .ne 5, 3) := by decide +kernel
theorem dX11_exchanged_10 : decode cX11_exchanged 10 = .ok (.iconst (-1), 1) := by decide +kernel
theorem dX11_exchanged_11 : decode cX11_exchanged 11 = .ok (.ireturn, 1) := by decide +kernel
theorem dX11_exchanged_12 : decode cX11_exchanged 12 = .ok (.aload_n 0, 1) := by decide +kernel
theorem dX11_exchanged_13 : decode cX11_exchanged 13 = .ok (.iconst 0, 1) := by decide +kernel
theorem dX11_exchanged_14 : decode cX11_exchanged 14 = .ok (.iconst 0, 1) := by decide +kernel
theorem dX11_exchanged_15 : decode cX11_exchanged 15 = .ok (.iconst (-1), 1) := by decide +kernel
theorem dX11_exchanged_16 : decode cX11_exchanged 16 = .ok (.invokevirtual 183, 3) := by decide +kernel
theorem dX11_exchanged_19 : decode cX11_exchanged 19 = .ok (.istore_n 2, 1) := by decide +kernel
theorem dX11_exchanged_20 : decode cX11_exchanged 20 = .ok (.iconst 0, 1) := by decide +kernel
theorem dX11_exchanged_21 : decode cX11_exchanged 21 = .ok (.istore_n 3, 1) := by decide +kernel
theorem dX11_exchanged_22 : decode cX11_exchanged 22 = .ok (.iload_n 3, 1) := by decide +kernel
theorem dX11_exchanged_23 : decode cX11_exchanged 23 = .ok (.aload_n 0, 1) := by decide +kernel
theorem dX11_exchanged_24 : decode cX11_exchanged 24 = .ok (.getfield 13, 3) := by decide +kernel
theorem dX11_exchanged_27 : decode cX11_exchanged 27 = .ok (.iconst 0, 1) := by decide +kernel
theorem dX11_exchanged_28 : decode cX11_exchanged 28 = .ok (.iaload, 1) := by decide +kernel
theorem dX11_exchanged_29 : decode cX11_exchanged 29 = .ok (.if_icmp .ge 54, 3) := by decide +kernel
theorem dX11_exchanged_32 : decode cX11_exchanged 32 = .ok (.iload_n 3, 1) := by decide +kernel
theorem dX11_exchanged_33 : decode cX11_exchanged 33 = .ok (.iconst 1, 1) := by decide +kernel
theorem dX11_exchanged_34 : decode cX11_exchanged 34 = .ok (.iadd, 1) := by decide +kernel
theorem dX11_exchanged_35 : decode cX11_exchanged 35 = .ok (.istore 4, 2) := by decide +kernel
theorem dX11_exchanged_37 : decode cX11_exchanged 37 = .ok (.iload 4, 2) := by decide +kernel
theorem dX11_exchanged_39 : decode cX11_exchanged 39 = .ok (.aload_n 0, 1) := by decide +kernel
theorem dX11_exchanged_40 : decode cX11_exchanged 40 = .ok (.getfield 13, 3) := by decide +kernel
theorem dX11_exchanged_43 : decode cX11_exchanged 43 = .ok (.iconst 0, 1) := by decide +kernel
theorem dX11_exchanged_44 : decode cX11_exchanged 44 = .ok (.iaload, 1) := by decide +kernel
theorem dX11_exchanged_45 : decode cX11_exchanged 45 = .ok (.if_icmp .ge 32, 3) := by decide +kernel
theorem dX11_exchanged_48 : decode cX11_exchanged 48 = .ok (.aload_n 0, 1) := by decide +kernel
theorem dX11_exchanged_49 : decode cX11_exchanged 49 = .ok (.iload_n 3, 1) := by decide +kernel
theorem dX11_exchanged_50 : decode cX11_exchanged 50 = .ok (.iload 4, 2) := by decide +kernel
theorem dX11_exchanged_52 : decode cX11_exchanged 52 = .ok (.iconst (-1), 1) := by decide +kernel
theorem dX11_exchanged_53 : decode cX11_exchanged 53 = .ok (.invokevirtual 183, 3) := by decide +kernel
theorem dX11_exchanged_56 : decode cX11_exchanged 56 = .ok (.iload_n 2, 1) := by decide +kernel
theorem dX11_exchanged_57 : decode cX11_exchanged 57 = .ok (.if_icmp .ge 14, 3) := by decide +kernel
theorem dX11_exchanged_60 : decode cX11_exchanged 60 = .ok (.iload_n 1, 1) := by decide +kernel
theorem dX11_exchanged_61 : decode cX11_exchanged 61 = .ok (.ifCond .ne 7, 3) := by decide +kernel
theorem dX11_exchanged_64 : decode cX11_exchanged 64 = .ok (.iload_n 3, 1) := by decide +kernel
theorem dX11_exchanged_65 : decode cX11_exchanged 65 = .ok (.goto 5, 3) := by decide +kernel
theorem dX11_exchanged_68 : decode cX11_exchanged 68 = .ok (.iload 4, 2) := by decide +kernel
theorem dX11_exchanged_70 : decode cX11_exchanged 70 = .ok (.ireturn, 1) := by decide +kernel
theorem dX11_exchanged_71 : decode cX11_exchanged 71 = .ok (.iinc 4 1, 3) := by decide +kernel
theorem dX11_exchanged_74 : decode cX11_exchanged 74 = .ok (.goto (-37), 3) := by decide +kernel
theorem dX11_exchanged_77 : decode cX11_exchanged 77 = .ok (.iinc 3 1, 3) := by decide +kernel
theorem dX11_exchanged_80 : decode cX11_exchanged 80 = .ok (.goto (-58), 3) := by decide +kernel
theorem dX11_exchanged_83 : decode cX11_exchanged 83 = .ok (.bipush (-4), 2) := by decide +kernel
theorem dX11_exchanged_85 : decode cX11_exchanged 85 = .ok (.ireturn, 1) := by decide +kernel
theorem dX11_isPoured_0 : decode cX11_isPoured 0 = .ok (.iload_n 1, 1) := by decide +kernel
theorem dX11_isPoured_1 : decode cX11_isPoured 1 = .ok (.ifCond .ne 5, 3) := by decide +kernel
theorem dX11_isPoured_4 : decode cX11_isPoured 4 = .ok (.iconst 1, 1) := by decide +kernel
theorem dX11_isPoured_5 : decode cX11_isPoured 5 = .ok (.ireturn, 1) := by decide +kernel
theorem dX11_isPoured_6 : decode cX11_isPoured 6 = .ok (.iload_n 1, 1) := by decide +kernel
theorem dX11_isPoured_7 : decode cX11_isPoured 7 = .ok (.iconst 1, 1) := by decide +kernel
theorem dX11_isPoured_8 : decode cX11_isPoured 8 = .ok (.isub, 1) := by decide +kernel
theorem dX11_isPoured_9 : decode cX11_isPoured 9 = .ok (.iload_n 2, 1) := by decide +kernel
theorem dX11_isPoured_10 : decode cX11_isPoured 10 = .ok (.idiv, 1) := by decide +kernel
theorem dX11_isPoured_11 : decode cX11_isPoured 11 = .ok (.aload_n 0, 1) := by decide +kernel
theorem dX11_isPoured_12 : decode cX11_isPoured 12 = .ok (.getfield 13, 3) := by decide +kernel
theorem dX11_isPoured_15 : decode cX11_isPoured 15 = .ok (.iconst 0, 1) := by decide +kernel
theorem dX11_isPoured_16 : decode cX11_isPoured 16 = .ok (.iaload, 1) := by decide +kernel
theorem dX11_isPoured_17 : decode cX11_isPoured 17 = .ok (.idiv, 1) := by decide +kernel
theorem dX11_isPoured_18 : decode cX11_isPoured 18 = .ok (.istore_n 3, 1) := by decide +kernel
theorem dX11_isPoured_19 : decode cX11_isPoured 19 = .ok (.iload_n 1, 1) := by decide +kernel
theorem dX11_isPoured_20 : decode cX11_isPoured 20 = .ok (.iconst 1, 1) := by decide +kernel
theorem dX11_isPoured_21 : decode cX11_isPoured 21 = .ok (.isub, 1) := by decide +kernel
theorem dX11_isPoured_22 : decode cX11_isPoured 22 = .ok (.iload_n 2, 1) := by decide +kernel
theorem dX11_isPoured_23 : decode cX11_isPoured 23 = .ok (.idiv, 1) := by decide +kernel
theorem dX11_isPoured_24 : decode cX11_isPoured 24 = .ok (.aload_n 0, 1) := by decide +kernel
theorem dX11_isPoured_25 : decode cX11_isPoured 25 = .ok (.getfield 13, 3) := by decide +kernel
theorem dX11_isPoured_28 : decode cX11_isPoured 28 = .ok (.iconst 0, 1) := by decide +kernel
theorem dX11_isPoured_29 : decode cX11_isPoured 29 = .ok (.iaload, 1) := by decide +kernel
theorem dX11_isPoured_30 : decode cX11_isPoured 30 = .ok (.irem, 1) := by decide +kernel
theorem dX11_isPoured_31 : decode cX11_isPoured 31 = .ok (.istore 4, 2) := by decide +kernel
theorem dX11_isPoured_33 : decode cX11_isPoured 33 = .ok (.iload_n 1, 1) := by decide +kernel
theorem dX11_isPoured_34 : decode cX11_isPoured 34 = .ok (.iconst 1, 1) := by decide +kernel
theorem dX11_isPoured_35 : decode cX11_isPoured 35 = .ok (.isub, 1) := by decide +kernel
theorem dX11_isPoured_36 : decode cX11_isPoured 36 = .ok (.iload_n 2, 1) := by decide +kernel
theorem dX11_isPoured_37 : decode cX11_isPoured 37 = .ok (.irem, 1) := by decide +kernel
theorem dX11_isPoured_38 : decode cX11_isPoured 38 = .ok (.iconst 1, 1) := by decide +kernel
theorem dX11_isPoured_39 : decode cX11_isPoured 39 = .ok (.iadd, 1) := by decide +kernel
theorem dX11_isPoured_40 : decode cX11_isPoured 40 = .ok (.istore 5, 2) := by decide +kernel
theorem dX11_isPoured_42 : decode cX11_isPoured 42 = .ok (.iload_n 3, 1) := by decide +kernel
theorem dX11_isPoured_43 : decode cX11_isPoured 43 = .ok (.iload 4, 2) := by decide +kernel
theorem dX11_isPoured_45 : decode cX11_isPoured 45 = .ok (.if_icmp .eq 30, 3) := by decide +kernel
theorem dX11_isPoured_48 : decode cX11_isPoured 48 = .ok (.aload_n 0, 1) := by decide +kernel
theorem dX11_isPoured_49 : decode cX11_isPoured 49 = .ok (.getfield 57, 3) := by decide +kernel
theorem dX11_isPoured_52 : decode cX11_isPoured 52 = .ok (.iload_n 3, 1) := by decide +kernel
theorem dX11_isPoured_53 : decode cX11_isPoured 53 = .ok (.iaload, 1) := by decide +kernel
theorem dX11_isPoured_54 : decode cX11_isPoured 54 = .ok (.iload 5, 2) := by decide +kernel
theorem dX11_isPoured_56 : decode cX11_isPoured 56 = .ok (.if_icmp .lt 19, 3) := by decide +kernel
theorem dX11_isPoured_59 : decode cX11_isPoured 59 = .ok (.aload_n 0, 1) := by decide +kernel
theorem dX11_isPoured_60 : decode cX11_isPoured 60 = .ok (.getfield 57, 3) := by decide +kernel
theorem dX11_isPoured_63 : decode cX11_isPoured 63 = .ok (.iload 4, 2) := by decide +kernel
theorem dX11_isPoured_65 : decode cX11_isPoured 65 = .ok (.iaload, 1) := by decide +kernel
theorem dX11_isPoured_66 : decode cX11_isPoured 66 = .ok (.iload 5, 2) := by decide +kernel
theorem dX11_isPoured_68 : decode cX11_isPoured 68 = .ok (.iadd, 1) := by decide +kernel
theorem dX11_isPoured_69 : decode cX11_isPoured 69 = .ok (.sipush 199, 3) := by decide +kernel
theorem dX11_isPoured_72 : decode cX11_isPoured 72 = .ok (.if_icmp .le 5, 3) := by decide +kernel
theorem dX11_isPoured_75 : decode cX11_isPoured 75 = .ok (.iconst 0, 1) := by decide +kernel
theorem dX11_isPoured_76 : decode cX11_isPoured 76 = .ok (.ireturn, 1) := by decide +kernel
theorem dX11_isPoured_77 : decode cX11_isPoured 77 = .ok (.aload_n 0, 1) := by decide +kernel
theorem dX11_isPoured_78 : decode cX11_isPoured 78 = .ok (.getfield 57, 3) := by decide +kernel
theorem dX11_isPoured_81 : decode cX11_isPoured 81 = .ok (.iload_n 3, 1) := by decide +kernel
theorem dX11_isPoured_82 : decode cX11_isPoured 82 = .ok (.dup2, 1) := by decide +kernel
theorem dX11_isPoured_83 : decode cX11_isPoured 83 = .ok (.iaload, 1) := by decide +kernel
theorem dX11_isPoured_84 : decode cX11_isPoured 84 = .ok (.iload 5, 2) := by decide +kernel
theorem dX11_isPoured_86 : decode cX11_isPoured 86 = .ok (.isub, 1) := by decide +kernel
theorem dX11_isPoured_87 : decode cX11_isPoured 87 = .ok (.iastore, 1) := by decide +kernel
theorem dX11_isPoured_88 : decode cX11_isPoured 88 = .ok (.aload_n 0, 1) := by decide +kernel
theorem dX11_isPoured_89 : decode cX11_isPoured 89 = .ok (.getfield 57, 3) := by decide +kernel
theorem dX11_isPoured_92 : decode cX11_isPoured 92 = .ok (.iload 4, 2) := by decide +kernel
theorem dX11_isPoured_94 : decode cX11_isPoured 94 = .ok (.dup2, 1) := by decide +kernel
theorem dX11_isPoured_95 : decode cX11_isPoured 95 = .ok (.iaload, 1) := by decide +kernel
theorem dX11_isPoured_96 : decode cX11_isPoured 96 = .ok (.iload 5, 2) := by decide +kernel
theorem dX11_isPoured_98 : decode cX11_isPoured 98 = .ok (.iadd, 1) := by decide +kernel
theorem dX11_isPoured_99 : decode cX11_isPoured 99 = .ok (.iastore, 1) := by decide +kernel
theorem dX11_isPoured_100 : decode cX11_isPoured 100 = .ok (.iconst 1, 1) := by decide +kernel
theorem dX11_isPoured_101 : decode cX11_isPoured 101 = .ok (.ireturn, 1) := by decide +kernel
theorem dX11_pours_0 : decode cX11_pours 0 = .ok (.iload_n 1, 1) := by decide +kernel
theorem dX11_pours_1 : decode cX11_pours 1 = .ok (.i2l, 1) := by decide +kernel
theorem dX11_pours_2 : decode cX11_pours 2 = .ok (.lconst 1, 1) := by decide +kernel
theorem dX11_pours_3 : decode cX11_pours 3 = .ok (.ldc2_w 117, 3) := by decide +kernel
theorem dX11_pours_6 : decode cX11_pours 6 = .ok (.invokestatic 86, 3) := by decide +kernel
theorem dX11_pours_9 : decode cX11_pours 9 = .ok (.ifCond .eq 27, 3) := by decide +kernel
theorem dX11_pours_12 : decode cX11_pours 12 = .ok (.iload_n 2, 1) := by decide +kernel
theorem dX11_pours_13 : decode cX11_pours 13 = .ok (.i2l, 1) := by decide +kernel
theorem dX11_pours_14 : decode cX11_pours 14 = .ok (.lconst 1, 1) := by decide +kernel
theorem dX11_pours_15 : decode cX11_pours 15 = .ok (.ldc2_w 186, 3) := by decide +kernel
theorem dX11_pours_18 : decode cX11_pours 18 = .ok (.invokestatic 86, 3) := by decide +kernel
theorem dX11_pours_21 : decode cX11_pours 21 = .ok (.ifCond .eq 15, 3) := by decide +kernel
theorem dX11_pours_24 : decode cX11_pours 24 = .ok (.iload_n 3, 1) := by decide +kernel
theorem dX11_pours_25 : decode cX11_pours 25 = .ok (.i2l, 1) := by decide +kernel
theorem dX11_pours_26 : decode cX11_pours 26 = .ok (.lconst 0, 1) := by decide +kernel
theorem dX11_pours_27 : decode cX11_pours 27 = .ok (.ldc2_w 101, 3) := by decide +kernel
theorem dX11_pours_30 : decode cX11_pours 30 = .ok (.invokestatic 86, 3) := by decide +kernel
theorem dX11_pours_33 : decode cX11_pours 33 = .ok (.ifCond .ne 5, 3) := by decide +kernel
theorem dX11_pours_36 : decode cX11_pours 36 = .ok (.iconst (-1), 1) := by decide +kernel
theorem dX11_pours_37 : decode cX11_pours 37 = .ok (.ireturn, 1) := by decide +kernel
theorem dX11_pours_38 : decode cX11_pours 38 = .ok (.iconst 1, 1) := by decide +kernel
theorem dX11_pours_39 : decode cX11_pours 39 = .ok (.aload_n 0, 1) := by decide +kernel
theorem dX11_pours_40 : decode cX11_pours 40 = .ok (.getfield 13, 3) := by decide +kernel
theorem dX11_pours_43 : decode cX11_pours 43 = .ok (.iconst 0, 1) := by decide +kernel
theorem dX11_pours_44 : decode cX11_pours 44 = .ok (.iaload, 1) := by decide +kernel
theorem dX11_pours_45 : decode cX11_pours 45 = .ok (.aload_n 0, 1) := by decide +kernel
theorem dX11_pours_46 : decode cX11_pours 46 = .ok (.getfield 13, 3) := by decide +kernel
theorem dX11_pours_49 : decode cX11_pours 49 = .ok (.iconst 0, 1) := by decide +kernel
theorem dX11_pours_50 : decode cX11_pours 50 = .ok (.iaload, 1) := by decide +kernel
theorem dX11_pours_51 : decode cX11_pours 51 = .ok (.imul, 1) := by decide +kernel
theorem dX11_pours_52 : decode cX11_pours 52 = .ok (.iload_n 2, 1) := by decide +kernel
theorem dX11_pours_53 : decode cX11_pours 53 = .ok (.imul, 1) := by decide +kernel
theorem dX11_pours_54 : decode cX11_pours 54 = .ok (.iadd, 1) := by decide +kernel
theorem dX11_pours_55 : decode cX11_pours 55 = .ok (.istore 4, 2) := by decide +kernel
theorem dX11_pours_57 : decode cX11_pours 57 = .ok (.iconst (-1), 1) := by decide +kernel
theorem dX11_pours_58 : decode cX11_pours 58 = .ok (.istore 5, 2) := by decide +kernel
theorem dX11_pours_60 : decode cX11_pours 60 = .ok (.iconst 0, 1) := by decide +kernel
theorem dX11_pours_61 : decode cX11_pours 61 = .ok (.istore 6, 2) := by decide +kernel
theorem dX11_pours_63 : decode cX11_pours 63 = .ok (.iconst 0, 1) := by decide +kernel
theorem dX11_pours_64 : decode cX11_pours 64 = .ok (.istore 7, 2) := by decide +kernel
theorem dX11_pours_66 : decode cX11_pours 66 = .ok (.iload 7, 2) := by decide +kernel
theorem dX11_pours_68 : decode cX11_pours 68 = .ok (.iload 4, 2) := by decide +kernel
theorem dX11_pours_70 : decode cX11_pours 70 = .ok (.if_icmp .ge 146, 3) := by decide +kernel
theorem dX11_pours_73 : decode cX11_pours 73 = .ok (.iconst 0, 1) := by decide +kernel
theorem dX11_pours_74 : decode cX11_pours 74 = .ok (.istore 8, 2) := by decide +kernel
theorem dX11_pours_76 : decode cX11_pours 76 = .ok (.iload 8, 2) := by decide +kernel
theorem dX11_pours_78 : decode cX11_pours 78 = .ok (.iload_n 1, 1) := by decide +kernel
theorem dX11_pours_79 : decode cX11_pours 79 = .ok (.iconst 1, 1) := by decide +kernel
theorem dX11_pours_80 : decode cX11_pours 80 = .ok (.if_icmp .ne 7, 3) := by decide +kernel
theorem dX11_pours_83 : decode cX11_pours 83 = .ok (.iconst 1, 1) := by decide +kernel
theorem dX11_pours_84 : decode cX11_pours 84 = .ok (.goto 5, 3) := by decide +kernel
theorem dX11_pours_87 : decode cX11_pours 87 = .ok (.iload 4, 2) := by decide +kernel
theorem dX11_pours_89 : decode cX11_pours 89 = .ok (.if_icmp .ge 121, 3) := by decide +kernel
theorem dX11_pours_92 : decode cX11_pours 92 = .ok (.aload_n 0, 1) := by decide +kernel
theorem dX11_pours_93 : decode cX11_pours 93 = .ok (.invokevirtual 160, 3) := by decide +kernel
theorem dX11_pours_96 : decode cX11_pours 96 = .ok (.aload_n 0, 1) := by decide +kernel
theorem dX11_pours_97 : decode cX11_pours 97 = .ok (.iload 7, 2) := by decide +kernel
theorem dX11_pours_99 : decode cX11_pours 99 = .ok (.iload_n 2, 1) := by decide +kernel
theorem dX11_pours_100 : decode cX11_pours 100 = .ok (.invokevirtual 188, 3) := by decide +kernel
theorem dX11_pours_103 : decode cX11_pours 103 = .ok (.ifCond .eq 101, 3) := by decide +kernel
theorem dX11_pours_106 : decode cX11_pours 106 = .ok (.aload_n 0, 1) := by decide +kernel
theorem dX11_pours_107 : decode cX11_pours 107 = .ok (.aload_n 0, 1) := by decide +kernel
theorem dX11_pours_108 : decode cX11_pours 108 = .ok (.getfield 23, 3) := by decide +kernel
theorem dX11_pours_111 : decode cX11_pours 111 = .ok (.iconst 1, 1) := by decide +kernel
theorem dX11_pours_112 : decode cX11_pours 112 = .ok (.iaload, 1) := by decide +kernel
theorem dX11_pours_113 : decode cX11_pours 113 = .ok (.aload_n 0, 1) := by decide +kernel
theorem dX11_pours_114 : decode cX11_pours 114 = .ok (.getfield 136, 3) := by decide +kernel
theorem dX11_pours_117 : decode cX11_pours 117 = .ok (.invokevirtual 156, 3) := by decide +kernel
theorem dX11_pours_120 : decode cX11_pours 120 = .ok (.istore 9, 2) := by decide +kernel
theorem dX11_pours_122 : decode cX11_pours 122 = .ok (.iload_n 1, 1) := by decide +kernel
theorem dX11_pours_123 : decode cX11_pours 123 = .ok (.iconst 1, 1) := by decide +kernel
theorem dX11_pours_124 : decode cX11_pours 124 = .ok (.if_icmp .eq 13, 3) := by decide +kernel
theorem dX11_pours_127 : decode cX11_pours 127 = .ok (.aload_n 0, 1) := by decide +kernel
theorem dX11_pours_128 : decode cX11_pours 128 = .ok (.iload 8, 2) := by decide +kernel
theorem dX11_pours_130 : decode cX11_pours 130 = .ok (.iload_n 2, 1) := by decide +kernel
theorem dX11_pours_131 : decode cX11_pours 131 = .ok (.invokevirtual 188, 3) := by decide +kernel
theorem dX11_pours_134 : decode cX11_pours 134 = .ok (.ifCond .eq 7, 3) := by decide +kernel
theorem dX11_pours_137 : decode cX11_pours 137 = .ok (.iconst 1, 1) := by decide +kernel
theorem dX11_pours_138 : decode cX11_pours 138 = .ok (.goto 4, 3) := by decide +kernel
theorem dX11_pours_141 : decode cX11_pours 141 = .ok (.iconst 0, 1) := by decide +kernel
theorem dX11_pours_142 : decode cX11_pours 142 = .ok (.istore 10, 2) := by decide +kernel
theorem dX11_pours_144 : decode cX11_pours 144 = .ok (.iload 9, 2) := by decide +kernel
theorem dX11_pours_146 : decode cX11_pours 146 = .ok (.iload_n 1, 1) := by decide +kernel
theorem dX11_pours_147 : decode cX11_pours 147 = .ok (.iconst 2, 1) := by decide +kernel
theorem dX11_pours_148 : decode cX11_pours 148 = .ok (.if_icmp .ne 27, 3) := by decide +kernel
theorem dX11_pours_151 : decode cX11_pours 151 = .ok (.iload 10, 2) := by decide +kernel
theorem dX11_pours_153 : decode cX11_pours 153 = .ok (.ifCond .eq 22, 3) := by decide +kernel
theorem dX11_pours_156 : decode cX11_pours 156 = .ok (.aload_n 0, 1) := by decide +kernel
theorem dX11_pours_157 : decode cX11_pours 157 = .ok (.aload_n 0, 1) := by decide +kernel
theorem dX11_pours_158 : decode cX11_pours 158 = .ok (.getfield 23, 3) := by decide +kernel
theorem dX11_pours_161 : decode cX11_pours 161 = .ok (.iconst 1, 1) := by decide +kernel
theorem dX11_pours_162 : decode cX11_pours 162 = .ok (.iaload, 1) := by decide +kernel
theorem dX11_pours_163 : decode cX11_pours 163 = .ok (.aload_n 0, 1) := by decide +kernel
theorem dX11_pours_164 : decode cX11_pours 164 = .ok (.getfield 136, 3) := by decide +kernel
theorem dX11_pours_167 : decode cX11_pours 167 = .ok (.iconst 1, 1) := by decide +kernel
theorem dX11_pours_168 : decode cX11_pours 168 = .ok (.iadd, 1) := by decide +kernel
theorem dX11_pours_169 : decode cX11_pours 169 = .ok (.invokevirtual 156, 3) := by decide +kernel
theorem dX11_pours_172 : decode cX11_pours 172 = .ok (.goto 4, 3) := by decide +kernel
theorem dX11_pours_175 : decode cX11_pours 175 = .ok (.iconst 0, 1) := by decide +kernel
theorem dX11_pours_176 : decode cX11_pours 176 = .ok (.iadd, 1) := by decide +kernel
theorem dX11_pours_177 : decode cX11_pours 177 = .ok (.istore 9, 2) := by decide +kernel
theorem dX11_pours_179 : decode cX11_pours 179 = .ok (.iload 10, 2) := by decide +kernel
theorem dX11_pours_181 : decode cX11_pours 181 = .ok (.ifCond .eq 23, 3) := by decide +kernel
theorem dX11_pours_184 : decode cX11_pours 184 = .ok (.iload 5, 2) := by decide +kernel
theorem dX11_pours_186 : decode cX11_pours 186 = .ok (.ifCond .lt 10, 3) := by decide +kernel
theorem dX11_pours_189 : decode cX11_pours 189 = .ok (.iload 9, 2) := by decide +kernel
theorem dX11_pours_191 : decode cX11_pours 191 = .ok (.iload 5, 2) := by decide +kernel
theorem dX11_pours_193 : decode cX11_pours 193 = .ok (.if_icmp .ge 11, 3) := by decide +kernel
theorem dX11_pours_196 : decode cX11_pours 196 = .ok (.iload 9, 2) := by decide +kernel
theorem dX11_pours_198 : decode cX11_pours 198 = .ok (.istore 5, 2) := by decide +kernel
theorem dX11_pours_200 : decode cX11_pours 200 = .ok (.iload 7, 2) := by decide +kernel
theorem dX11_pours_202 : decode cX11_pours 202 = .ok (.istore 6, 2) := by decide +kernel
theorem dX11_pours_204 : decode cX11_pours 204 = .ok (.iinc 8 1, 3) := by decide +kernel
theorem dX11_pours_207 : decode cX11_pours 207 = .ok (.goto (-131), 3) := by decide +kernel
theorem dX11_pours_210 : decode cX11_pours 210 = .ok (.iinc 7 1, 3) := by decide +kernel
theorem dX11_pours_213 : decode cX11_pours 213 = .ok (.goto (-147), 3) := by decide +kernel
theorem dX11_pours_216 : decode cX11_pours 216 = .ok (.aload_n 0, 1) := by decide +kernel
theorem dX11_pours_217 : decode cX11_pours 217 = .ok (.getfield 72, 3) := by decide +kernel
theorem dX11_pours_220 : decode cX11_pours 220 = .ok (.iconst 0, 1) := by decide +kernel
theorem dX11_pours_221 : decode cX11_pours 221 = .ok (.iload 6, 2) := by decide +kernel
theorem dX11_pours_223 : decode cX11_pours 223 = .ok (.ifCond .ne 8, 3) := by decide +kernel
theorem dX11_pours_226 : decode cX11_pours 226 = .ok (.bipush (-4), 2) := by decide +kernel
theorem dX11_pours_228 : decode cX11_pours 228 = .ok (.goto 16, 3) := by decide +kernel
theorem dX11_pours_231 : decode cX11_pours 231 = .ok (.iload 6, 2) := by decide +kernel
theorem dX11_pours_233 : decode cX11_pours 233 = .ok (.iconst 1, 1) := by decide +kernel
theorem dX11_pours_234 : decode cX11_pours 234 = .ok (.isub, 1) := by decide +kernel
theorem dX11_pours_235 : decode cX11_pours 235 = .ok (.iload_n 2, 1) := by decide +kernel
theorem dX11_pours_236 : decode cX11_pours 236 = .ok (.idiv, 1) := by decide +kernel
theorem dX11_pours_237 : decode cX11_pours 237 = .ok (.aload_n 0, 1) := by decide +kernel
theorem dX11_pours_238 : decode cX11_pours 238 = .ok (.getfield 13, 3) := by decide +kernel
theorem dX11_pours_241 : decode cX11_pours 241 = .ok (.iconst 0, 1) := by decide +kernel
theorem dX11_pours_242 : decode cX11_pours 242 = .ok (.iaload, 1) := by decide +kernel
theorem dX11_pours_243 : decode cX11_pours 243 = .ok (.idiv, 1) := by decide +kernel
theorem dX11_pours_244 : decode cX11_pours 244 = .ok (.iastore, 1) := by decide +kernel
theorem dX11_pours_245 : decode cX11_pours 245 = .ok (.aload_n 0, 1) := by decide +kernel
theorem dX11_pours_246 : decode cX11_pours 246 = .ok (.getfield 72, 3) := by decide +kernel
theorem dX11_pours_249 : decode cX11_pours 249 = .ok (.iconst 1, 1) := by decide +kernel
theorem dX11_pours_250 : decode cX11_pours 250 = .ok (.iload 6, 2) := by decide +kernel
theorem dX11_pours_252 : decode cX11_pours 252 = .ok (.ifCond .ne 8, 3) := by decide +kernel
theorem dX11_pours_255 : decode cX11_pours 255 = .ok (.bipush (-4), 2) := by decide +kernel
theorem dX11_pours_257 : decode cX11_pours 257 = .ok (.goto 16, 3) := by decide +kernel
theorem dX11_pours_260 : decode cX11_pours 260 = .ok (.iload 6, 2) := by decide +kernel
theorem dX11_pours_262 : decode cX11_pours 262 = .ok (.iconst 1, 1) := by decide +kernel
theorem dX11_pours_263 : decode cX11_pours 263 = .ok (.isub, 1) := by decide +kernel
theorem dX11_pours_264 : decode cX11_pours 264 = .ok (.iload_n 2, 1) := by decide +kernel
theorem dX11_pours_265 : decode cX11_pours 265 = .ok (.idiv, 1) := by decide +kernel
theorem dX11_pours_266 : decode cX11_pours 266 = .ok (.aload_n 0, 1) := by decide +kernel
theorem dX11_pours_267 : decode cX11_pours 267 = .ok (.getfield 13, 3) := by decide +kernel
theorem dX11_pours_270 : decode cX11_pours 270 = .ok (.iconst 0, 1) := by decide +kernel
theorem dX11_pours_271 : decode cX11_pours 271 = .ok (.iaload, 1) := by decide +kernel
theorem dX11_pours_272 : decode cX11_pours 272 = .ok (.irem, 1) := by decide +kernel
theorem dX11_pours_273 : decode cX11_pours 273 = .ok (.iastore, 1) := by decide +kernel
theorem dX11_pours_274 : decode cX11_pours 274 = .ok (.aload_n 0, 1) := by decide +kernel
theorem dX11_pours_275 : decode cX11_pours 275 = .ok (.getfield 72, 3) := by decide +kernel
theorem dX11_pours_278 : decode cX11_pours 278 = .ok (.iconst 2, 1) := by decide +kernel
theorem dX11_pours_279 : decode cX11_pours 279 = .ok (.iload 6, 2) := by decide +kernel
theorem dX11_pours_281 : decode cX11_pours 281 = .ok (.ifCond .ne 8, 3) := by decide +kernel
end
section
theorem dX11_pours_284 : decode cX11_pours 284 = .ok (.bipush (-4), 2) := by decide +kernel
theorem dX11_pours_286 : decode cX11_pours 286 = .ok (.goto 11, 3) := by decide +kernel
theorem dX11_pours_289 : decode cX11_pours 289 = .ok (.iload 6, 2) := by decide +kernel
theorem dX11_pours_291 : decode cX11_pours 291 = .ok (.iconst 1, 1) := by decide +kernel
theorem dX11_pours_292 : decode cX11_pours 292 = .ok (.isub, 1) := by decide +kernel
theorem dX11_pours_293 : decode cX11_pours 293 = .ok (.iload_n 2, 1) := by decide +kernel
theorem dX11_pours_294 : decode cX11_pours 294 = .ok (.irem, 1) := by decide +kernel
theorem dX11_pours_295 : decode cX11_pours 295 = .ok (.iconst 1, 1) := by decide +kernel
theorem dX11_pours_296 : decode cX11_pours 296 = .ok (.iadd, 1) := by decide +kernel
theorem dX11_pours_297 : decode cX11_pours 297 = .ok (.iastore, 1) := by decide +kernel
theorem dX11_pours_298 : decode cX11_pours 298 = .ok (.iload_n 3, 1) := by decide +kernel
theorem dX11_pours_299 : decode cX11_pours 299 = .ok (.ifCond .ne 8, 3) := by decide +kernel
theorem dX11_pours_302 : decode cX11_pours 302 = .ok (.iload 5, 2) := by decide +kernel
theorem dX11_pours_304 : decode cX11_pours 304 = .ok (.goto 11, 3) := by decide +kernel
theorem dX11_pours_307 : decode cX11_pours 307 = .ok (.aload_n 0, 1) := by decide +kernel
theorem dX11_pours_308 : decode cX11_pours 308 = .ok (.getfield 72, 3) := by decide +kernel
theorem dX11_pours_311 : decode cX11_pours 311 = .ok (.iload_n 3, 1) := by decide +kernel
theorem dX11_pours_312 : decode cX11_pours 312 = .ok (.iconst 1, 1) := by decide +kernel
theorem dX11_pours_313 : decode cX11_pours 313 = .ok (.isub, 1) := by decide +kernel
theorem dX11_pours_314 : decode cX11_pours 314 = .ok (.iaload, 1) := by decide +kernel
theorem dX11_pours_315 : decode cX11_pours 315 = .ok (.ireturn, 1) := by decide +kernel
theorem dX11_lostByCorn_0 : decode cX11_lostByCorn 0 = .ok (.aload_n 0, 1) := by decide +kernel
theorem dX11_lostByCorn_1 : decode cX11_lostByCorn 1 = .ok (.invokevirtual 160, 3) := by decide +kernel
theorem dX11_lostByCorn_4 : decode cX11_lostByCorn 4 = .ok (.iconst 0, 1) := by decide +kernel
theorem dX11_lostByCorn_5 : decode cX11_lostByCorn 5 = .ok (.istore_n 2, 1) := by decide +kernel
theorem dX11_lostByCorn_6 : decode cX11_lostByCorn 6 = .ok (.iconst 0, 1) := by decide +kernel
theorem dX11_lostByCorn_7 : decode cX11_lostByCorn 7 = .ok (.istore_n 3, 1) := by decide +kernel
theorem dX11_lostByCorn_8 : decode cX11_lostByCorn 8 = .ok (.iload_n 3, 1) := by decide +kernel
theorem dX11_lostByCorn_9 : decode cX11_lostByCorn 9 = .ok (.iload_n 1, 1) := by decide +kernel
theorem dX11_lostByCorn_10 : decode cX11_lostByCorn 10 = .ok (.if_icmp .ge 102, 3) := by decide +kernel
theorem dX11_lostByCorn_13 : decode cX11_lostByCorn 13 = .ok (.iconst 0, 1) := by decide +kernel
theorem dX11_lostByCorn_14 : decode cX11_lostByCorn 14 = .ok (.istore 4, 2) := by decide +kernel
theorem dX11_lostByCorn_16 : decode cX11_lostByCorn 16 = .ok (.iload 4, 2) := by decide +kernel
theorem dX11_lostByCorn_18 : decode cX11_lostByCorn 18 = .ok (.aload_n 0, 1) := by decide +kernel
theorem dX11_lostByCorn_19 : decode cX11_lostByCorn 19 = .ok (.getfield 32, 3) := by decide +kernel
theorem dX11_lostByCorn_22 : decode cX11_lostByCorn 22 = .ok (.iconst 0, 1) := by decide +kernel
theorem dX11_lostByCorn_23 : decode cX11_lostByCorn 23 = .ok (.iaload, 1) := by decide +kernel
theorem dX11_lostByCorn_24 : decode cX11_lostByCorn 24 = .ok (.if_icmp .ge 68, 3) := by decide +kernel
theorem dX11_lostByCorn_27 : decode cX11_lostByCorn 27 = .ok (.aload_n 0, 1) := by decide +kernel
theorem dX11_lostByCorn_28 : decode cX11_lostByCorn 28 = .ok (.getfield 35, 3) := by decide +kernel
theorem dX11_lostByCorn_31 : decode cX11_lostByCorn 31 = .ok (.iconst 2, 1) := by decide +kernel
theorem dX11_lostByCorn_32 : decode cX11_lostByCorn 32 = .ok (.iload 4, 2) := by decide +kernel
theorem dX11_lostByCorn_34 : decode cX11_lostByCorn 34 = .ok (.imul, 1) := by decide +kernel
theorem dX11_lostByCorn_35 : decode cX11_lostByCorn 35 = .ok (.iaload, 1) := by decide +kernel
theorem dX11_lostByCorn_36 : decode cX11_lostByCorn 36 = .ok (.iload_n 3, 1) := by decide +kernel
theorem dX11_lostByCorn_37 : decode cX11_lostByCorn 37 = .ok (.if_icmp .ne 49, 3) := by decide +kernel
theorem dX11_lostByCorn_40 : decode cX11_lostByCorn 40 = .ok (.aload_n 0, 1) := by decide +kernel
theorem dX11_lostByCorn_41 : decode cX11_lostByCorn 41 = .ok (.getfield 57, 3) := by decide +kernel
theorem dX11_lostByCorn_44 : decode cX11_lostByCorn 44 = .ok (.aload_n 0, 1) := by decide +kernel
theorem dX11_lostByCorn_45 : decode cX11_lostByCorn 45 = .ok (.getfield 66, 3) := by decide +kernel
theorem dX11_lostByCorn_48 : decode cX11_lostByCorn 48 = .ok (.iload 4, 2) := by decide +kernel
theorem dX11_lostByCorn_50 : decode cX11_lostByCorn 50 = .ok (.iaload, 1) := by decide +kernel
theorem dX11_lostByCorn_51 : decode cX11_lostByCorn 51 = .ok (.dup2, 1) := by decide +kernel
theorem dX11_lostByCorn_52 : decode cX11_lostByCorn 52 = .ok (.iaload, 1) := by decide +kernel
theorem dX11_lostByCorn_53 : decode cX11_lostByCorn 53 = .ok (.aload_n 0, 1) := by decide +kernel
theorem dX11_lostByCorn_54 : decode cX11_lostByCorn 54 = .ok (.getfield 35, 3) := by decide +kernel
theorem dX11_lostByCorn_57 : decode cX11_lostByCorn 57 = .ok (.iconst 2, 1) := by decide +kernel
theorem dX11_lostByCorn_58 : decode cX11_lostByCorn 58 = .ok (.iload 4, 2) := by decide +kernel
theorem dX11_lostByCorn_60 : decode cX11_lostByCorn 60 = .ok (.imul, 1) := by decide +kernel
theorem dX11_lostByCorn_61 : decode cX11_lostByCorn 61 = .ok (.iconst 1, 1) := by decide +kernel
theorem dX11_lostByCorn_62 : decode cX11_lostByCorn 62 = .ok (.iadd, 1) := by decide +kernel
theorem dX11_lostByCorn_63 : decode cX11_lostByCorn 63 = .ok (.iaload, 1) := by decide +kernel
theorem dX11_lostByCorn_64 : decode cX11_lostByCorn 64 = .ok (.iadd, 1) := by decide +kernel
theorem dX11_lostByCorn_65 : decode cX11_lostByCorn 65 = .ok (.iastore, 1) := by decide +kernel
theorem dX11_lostByCorn_66 : decode cX11_lostByCorn 66 = .ok (.aload_n 0, 1) := by decide +kernel
theorem dX11_lostByCorn_67 : decode cX11_lostByCorn 67 = .ok (.getfield 57, 3) := by decide +kernel
theorem dX11_lostByCorn_70 : decode cX11_lostByCorn 70 = .ok (.aload_n 0, 1) := by decide +kernel
theorem dX11_lostByCorn_71 : decode cX11_lostByCorn 71 = .ok (.getfield 66, 3) := by decide +kernel
theorem dX11_lostByCorn_74 : decode cX11_lostByCorn 74 = .ok (.iload 4, 2) := by decide +kernel
theorem dX11_lostByCorn_76 : decode cX11_lostByCorn 76 = .ok (.iaload, 1) := by decide +kernel
theorem dX11_lostByCorn_77 : decode cX11_lostByCorn 77 = .ok (.iaload, 1) := by decide +kernel
theorem dX11_lostByCorn_78 : decode cX11_lostByCorn 78 = .ok (.sipush 199, 3) := by decide +kernel
theorem dX11_lostByCorn_81 : decode cX11_lostByCorn 81 = .ok (.if_icmp .le 5, 3) := by decide +kernel
theorem dX11_lostByCorn_84 : decode cX11_lostByCorn 84 = .ok (.iconst (-1), 1) := by decide +kernel
theorem dX11_lostByCorn_85 : decode cX11_lostByCorn 85 = .ok (.ireturn, 1) := by decide +kernel
theorem dX11_lostByCorn_86 : decode cX11_lostByCorn 86 = .ok (.iinc 4 1, 3) := by decide +kernel
theorem dX11_lostByCorn_89 : decode cX11_lostByCorn 89 = .ok (.goto (-73), 3) := by decide +kernel
theorem dX11_lostByCorn_92 : decode cX11_lostByCorn 92 = .ok (.iload_n 2, 1) := by decide +kernel
theorem dX11_lostByCorn_93 : decode cX11_lostByCorn 93 = .ok (.aload_n 0, 1) := by decide +kernel
theorem dX11_lostByCorn_94 : decode cX11_lostByCorn 94 = .ok (.aload_n 0, 1) := by decide +kernel
theorem dX11_lostByCorn_95 : decode cX11_lostByCorn 95 = .ok (.getfield 23, 3) := by decide +kernel
theorem dX11_lostByCorn_98 : decode cX11_lostByCorn 98 = .ok (.iconst 1, 1) := by decide +kernel
theorem dX11_lostByCorn_99 : decode cX11_lostByCorn 99 = .ok (.iaload, 1) := by decide +kernel
theorem dX11_lostByCorn_100 : decode cX11_lostByCorn 100 = .ok (.iload_n 3, 1) := by decide +kernel
theorem dX11_lostByCorn_101 : decode cX11_lostByCorn 101 = .ok (.invokevirtual 156, 3) := by decide +kernel
theorem dX11_lostByCorn_104 : decode cX11_lostByCorn 104 = .ok (.iadd, 1) := by decide +kernel
theorem dX11_lostByCorn_105 : decode cX11_lostByCorn 105 = .ok (.istore_n 2, 1) := by decide +kernel
theorem dX11_lostByCorn_106 : decode cX11_lostByCorn 106 = .ok (.iinc 3 1, 3) := by decide +kernel
theorem dX11_lostByCorn_109 : decode cX11_lostByCorn 109 = .ok (.goto (-101), 3) := by decide +kernel
theorem dX11_lostByCorn_112 : decode cX11_lostByCorn 112 = .ok (.iload_n 2, 1) := by decide +kernel
theorem dX11_lostByCorn_113 : decode cX11_lostByCorn 113 = .ok (.ireturn, 1) := by decide +kernel
theorem dX11_corn_0 : decode cX11_corn 0 = .ok (.iload_n 1, 1) := by decide +kernel
theorem dX11_corn_1 : decode cX11_corn 1 = .ok (.i2l, 1) := by decide +kernel
theorem dX11_corn_2 : decode cX11_corn 2 = .ok (.lconst 1, 1) := by decide +kernel
theorem dX11_corn_3 : decode cX11_corn 3 = .ok (.ldc2_w 191, 3) := by decide +kernel
theorem dX11_corn_6 : decode cX11_corn 6 = .ok (.invokestatic 86, 3) := by decide +kernel
theorem dX11_corn_9 : decode cX11_corn 9 = .ok (.ifCond .eq 23, 3) := by decide +kernel
theorem dX11_corn_12 : decode cX11_corn 12 = .ok (.iload_n 2, 1) := by decide +kernel
theorem dX11_corn_13 : decode cX11_corn 13 = .ok (.i2l, 1) := by decide +kernel
theorem dX11_corn_14 : decode cX11_corn 14 = .ok (.ldc2_w 169, 3) := by decide +kernel
theorem dX11_corn_17 : decode cX11_corn 17 = .ok (.aload_n 0, 1) := by decide +kernel
theorem dX11_corn_18 : decode cX11_corn 18 = .ok (.getfield 32, 3) := by decide +kernel
theorem dX11_corn_21 : decode cX11_corn 21 = .ok (.iconst 0, 1) := by decide +kernel
theorem dX11_corn_22 : decode cX11_corn 22 = .ok (.iaload, 1) := by decide +kernel
theorem dX11_corn_23 : decode cX11_corn 23 = .ok (.iconst 1, 1) := by decide +kernel
theorem dX11_corn_24 : decode cX11_corn 24 = .ok (.isub, 1) := by decide +kernel
theorem dX11_corn_25 : decode cX11_corn 25 = .ok (.i2l, 1) := by decide +kernel
theorem dX11_corn_26 : decode cX11_corn 26 = .ok (.invokestatic 86, 3) := by decide +kernel
theorem dX11_corn_29 : decode cX11_corn 29 = .ok (.ifCond .ne 5, 3) := by decide +kernel
theorem dX11_corn_32 : decode cX11_corn 32 = .ok (.iconst (-1), 1) := by decide +kernel
theorem dX11_corn_33 : decode cX11_corn 33 = .ok (.ireturn, 1) := by decide +kernel
theorem dX11_corn_34 : decode cX11_corn 34 = .ok (.aload_n 0, 1) := by decide +kernel
theorem dX11_corn_35 : decode cX11_corn 35 = .ok (.getfield 32, 3) := by decide +kernel
theorem dX11_corn_38 : decode cX11_corn 38 = .ok (.iconst 0, 1) := by decide +kernel
theorem dX11_corn_39 : decode cX11_corn 39 = .ok (.iaload, 1) := by decide +kernel
theorem dX11_corn_40 : decode cX11_corn 40 = .ok (.ifCond .ne 7, 3) := by decide +kernel
theorem dX11_corn_43 : decode cX11_corn 43 = .ok (.iconst 0, 1) := by decide +kernel
theorem dX11_corn_44 : decode cX11_corn 44 = .ok (.goto 4, 3) := by decide +kernel
theorem dX11_corn_47 : decode cX11_corn 47 = .ok (.iconst 1, 1) := by decide +kernel
theorem dX11_corn_48 : decode cX11_corn 48 = .ok (.istore_n 3, 1) := by decide +kernel
theorem dX11_corn_49 : decode cX11_corn 49 = .ok (.iconst 0, 1) := by decide +kernel
theorem dX11_corn_50 : decode cX11_corn 50 = .ok (.istore 4, 2) := by decide +kernel
theorem dX11_corn_52 : decode cX11_corn 52 = .ok (.iload 4, 2) := by decide +kernel
theorem dX11_corn_54 : decode cX11_corn 54 = .ok (.aload_n 0, 1) := by decide +kernel
theorem dX11_corn_55 : decode cX11_corn 55 = .ok (.getfield 32, 3) := by decide +kernel
theorem dX11_corn_58 : decode cX11_corn 58 = .ok (.iconst 0, 1) := by decide +kernel
theorem dX11_corn_59 : decode cX11_corn 59 = .ok (.iaload, 1) := by decide +kernel
theorem dX11_corn_60 : decode cX11_corn 60 = .ok (.if_icmp .ge 18, 3) := by decide +kernel
theorem dX11_corn_63 : decode cX11_corn 63 = .ok (.iload_n 3, 1) := by decide +kernel
theorem dX11_corn_64 : decode cX11_corn 64 = .ok (.aload_n 0, 1) := by decide +kernel
theorem dX11_corn_65 : decode cX11_corn 65 = .ok (.getfield 13, 3) := by decide +kernel
theorem dX11_corn_68 : decode cX11_corn 68 = .ok (.iconst 0, 1) := by decide +kernel
theorem dX11_corn_69 : decode cX11_corn 69 = .ok (.iaload, 1) := by decide +kernel
theorem dX11_corn_70 : decode cX11_corn 70 = .ok (.imul, 1) := by decide +kernel
theorem dX11_corn_71 : decode cX11_corn 71 = .ok (.istore_n 3, 1) := by decide +kernel
theorem dX11_corn_72 : decode cX11_corn 72 = .ok (.iinc 4 1, 3) := by decide +kernel
theorem dX11_corn_75 : decode cX11_corn 75 = .ok (.goto (-23), 3) := by decide +kernel
theorem dX11_corn_78 : decode cX11_corn 78 = .ok (.bipush (-4), 2) := by decide +kernel
theorem dX11_corn_80 : decode cX11_corn 80 = .ok (.istore 4, 2) := by decide +kernel
theorem dX11_corn_82 : decode cX11_corn 82 = .ok (.iconst 0, 1) := by decide +kernel
theorem dX11_corn_83 : decode cX11_corn 83 = .ok (.istore 5, 2) := by decide +kernel
theorem dX11_corn_85 : decode cX11_corn 85 = .ok (.iload 5, 2) := by decide +kernel
theorem dX11_corn_87 : decode cX11_corn 87 = .ok (.iload_n 3, 1) := by decide +kernel
theorem dX11_corn_88 : decode cX11_corn 88 = .ok (.if_icmp .ge 123, 3) := by decide +kernel
theorem dX11_corn_91 : decode cX11_corn 91 = .ok (.iload 5, 2) := by decide +kernel
theorem dX11_corn_93 : decode cX11_corn 93 = .ok (.istore 6, 2) := by decide +kernel
theorem dX11_corn_95 : decode cX11_corn 95 = .ok (.aload_n 0, 1) := by decide +kernel
theorem dX11_corn_96 : decode cX11_corn 96 = .ok (.getfield 32, 3) := by decide +kernel
theorem dX11_corn_99 : decode cX11_corn 99 = .ok (.iconst 0, 1) := by decide +kernel
theorem dX11_corn_100 : decode cX11_corn 100 = .ok (.iaload, 1) := by decide +kernel
theorem dX11_corn_101 : decode cX11_corn 101 = .ok (.iconst 1, 1) := by decide +kernel
theorem dX11_corn_102 : decode cX11_corn 102 = .ok (.isub, 1) := by decide +kernel
theorem dX11_corn_103 : decode cX11_corn 103 = .ok (.istore 7, 2) := by decide +kernel
theorem dX11_corn_105 : decode cX11_corn 105 = .ok (.iload 7, 2) := by decide +kernel
theorem dX11_corn_107 : decode cX11_corn 107 = .ok (.ifCond .lt 36, 3) := by decide +kernel
theorem dX11_corn_110 : decode cX11_corn 110 = .ok (.aload_n 0, 1) := by decide +kernel
theorem dX11_corn_111 : decode cX11_corn 111 = .ok (.getfield 66, 3) := by decide +kernel
theorem dX11_corn_114 : decode cX11_corn 114 = .ok (.iload 7, 2) := by decide +kernel
theorem dX11_corn_116 : decode cX11_corn 116 = .ok (.iload 6, 2) := by decide +kernel
theorem dX11_corn_118 : decode cX11_corn 118 = .ok (.aload_n 0, 1) := by decide +kernel
theorem dX11_corn_119 : decode cX11_corn 119 = .ok (.getfield 13, 3) := by decide +kernel
theorem dX11_corn_122 : decode cX11_corn 122 = .ok (.iconst 0, 1) := by decide +kernel
theorem dX11_corn_123 : decode cX11_corn 123 = .ok (.iaload, 1) := by decide +kernel
theorem dX11_corn_124 : decode cX11_corn 124 = .ok (.irem, 1) := by decide +kernel
theorem dX11_corn_125 : decode cX11_corn 125 = .ok (.iastore, 1) := by decide +kernel
theorem dX11_corn_126 : decode cX11_corn 126 = .ok (.iload 6, 2) := by decide +kernel
theorem dX11_corn_128 : decode cX11_corn 128 = .ok (.aload_n 0, 1) := by decide +kernel
theorem dX11_corn_129 : decode cX11_corn 129 = .ok (.getfield 13, 3) := by decide +kernel
theorem dX11_corn_132 : decode cX11_corn 132 = .ok (.iconst 0, 1) := by decide +kernel
theorem dX11_corn_133 : decode cX11_corn 133 = .ok (.iaload, 1) := by decide +kernel
theorem dX11_corn_134 : decode cX11_corn 134 = .ok (.idiv, 1) := by decide +kernel
theorem dX11_corn_135 : decode cX11_corn 135 = .ok (.istore 6, 2) := by decide +kernel
theorem dX11_corn_137 : decode cX11_corn 137 = .ok (.iinc 7 (-1), 3) := by decide +kernel
theorem dX11_corn_140 : decode cX11_corn 140 = .ok (.goto (-35), 3) := by decide +kernel
theorem dX11_corn_143 : decode cX11_corn 143 = .ok (.aload_n 0, 1) := by decide +kernel
theorem dX11_corn_144 : decode cX11_corn 144 = .ok (.iload_n 1, 1) := by decide +kernel
theorem dX11_corn_145 : decode cX11_corn 145 = .ok (.invokevirtual 193, 3) := by decide +kernel
theorem dX11_corn_148 : decode cX11_corn 148 = .ok (.istore 7, 2) := by decide +kernel
theorem dX11_corn_150 : decode cX11_corn 150 = .ok (.iload 7, 2) := by decide +kernel
theorem dX11_corn_152 : decode cX11_corn 152 = .ok (.ifCond .lt 53, 3) := by decide +kernel
theorem dX11_corn_155 : decode cX11_corn 155 = .ok (.iload 4, 2) := by decide +kernel
theorem dX11_corn_157 : decode cX11_corn 157 = .ok (.ifCond .lt 10, 3) := by decide +kernel
theorem dX11_corn_160 : decode cX11_corn 160 = .ok (.iload 7, 2) := by decide +kernel
theorem dX11_corn_162 : decode cX11_corn 162 = .ok (.iload 4, 2) := by decide +kernel
theorem dX11_corn_164 : decode cX11_corn 164 = .ok (.if_icmp .ge 41, 3) := by decide +kernel
theorem dX11_corn_167 : decode cX11_corn 167 = .ok (.iload 7, 2) := by decide +kernel
theorem dX11_corn_169 : decode cX11_corn 169 = .ok (.istore 4, 2) := by decide +kernel
theorem dX11_corn_171 : decode cX11_corn 171 = .ok (.iconst 0, 1) := by decide +kernel
theorem dX11_corn_172 : decode cX11_corn 172 = .ok (.istore 8, 2) := by decide +kernel
theorem dX11_corn_174 : decode cX11_corn 174 = .ok (.iload 8, 2) := by decide +kernel
theorem dX11_corn_176 : decode cX11_corn 176 = .ok (.aload_n 0, 1) := by decide +kernel
theorem dX11_corn_177 : decode cX11_corn 177 = .ok (.getfield 32, 3) := by decide +kernel
theorem dX11_corn_180 : decode cX11_corn 180 = .ok (.iconst 0, 1) := by decide +kernel
theorem dX11_corn_181 : decode cX11_corn 181 = .ok (.iaload, 1) := by decide +kernel
theorem dX11_corn_182 : decode cX11_corn 182 = .ok (.if_icmp .ge 23, 3) := by decide +kernel
theorem dX11_corn_185 : decode cX11_corn 185 = .ok (.aload_n 0, 1) := by decide +kernel
theorem dX11_corn_186 : decode cX11_corn 186 = .ok (.getfield 69, 3) := by decide +kernel
theorem dX11_corn_189 : decode cX11_corn 189 = .ok (.iload 8, 2) := by decide +kernel
theorem dX11_corn_191 : decode cX11_corn 191 = .ok (.aload_n 0, 1) := by decide +kernel
theorem dX11_corn_192 : decode cX11_corn 192 = .ok (.getfield 66, 3) := by decide +kernel
theorem dX11_corn_195 : decode cX11_corn 195 = .ok (.iload 8, 2) := by decide +kernel
theorem dX11_corn_197 : decode cX11_corn 197 = .ok (.iaload, 1) := by decide +kernel
theorem dX11_corn_198 : decode cX11_corn 198 = .ok (.iastore, 1) := by decide +kernel
theorem dX11_corn_199 : decode cX11_corn 199 = .ok (.iinc 8 1, 3) := by decide +kernel
theorem dX11_corn_202 : decode cX11_corn 202 = .ok (.goto (-28), 3) := by decide +kernel
theorem dX11_corn_205 : decode cX11_corn 205 = .ok (.iinc 5 1, 3) := by decide +kernel
theorem dX11_corn_208 : decode cX11_corn 208 = .ok (.goto (-123), 3) := by decide +kernel
theorem dX11_corn_211 : decode cX11_corn 211 = .ok (.iload 4, 2) := by decide +kernel
theorem dX11_corn_213 : decode cX11_corn 213 = .ok (.ifCond .lt 7, 3) := by decide +kernel
theorem dX11_corn_216 : decode cX11_corn 216 = .ok (.iload_n 2, 1) := by decide +kernel
theorem dX11_corn_217 : decode cX11_corn 217 = .ok (.ifCond .ge 8, 3) := by decide +kernel
theorem dX11_corn_220 : decode cX11_corn 220 = .ok (.iload 4, 2) := by decide +kernel
theorem dX11_corn_222 : decode cX11_corn 222 = .ok (.goto 9, 3) := by decide +kernel
theorem dX11_corn_225 : decode cX11_corn 225 = .ok (.aload_n 0, 1) := by decide +kernel
theorem dX11_corn_226 : decode cX11_corn 226 = .ok (.getfield 69, 3) := by decide +kernel
theorem dX11_corn_229 : decode cX11_corn 229 = .ok (.iload_n 2, 1) := by decide +kernel
theorem dX11_corn_230 : decode cX11_corn 230 = .ok (.iaload, 1) := by decide +kernel
theorem dX11_corn_231 : decode cX11_corn 231 = .ok (.ireturn, 1) := by decide +kernel
theorem dX11_gapOf_0 : decode cX11_gapOf 0 = .ok (.iload_n 1, 1) := by decide +kernel
theorem dX11_gapOf_1 : decode cX11_gapOf 1 = .ok (.istore_n 2, 1) := by decide +kernel
theorem dX11_gapOf_2 : decode cX11_gapOf 2 = .ok (.iconst 0, 1) := by decide +kernel
theorem dX11_gapOf_3 : decode cX11_gapOf 3 = .ok (.istore_n 3, 1) := by decide +kernel
theorem dX11_gapOf_4 : decode cX11_gapOf 4 = .ok (.iload_n 2, 1) := by decide +kernel
theorem dX11_gapOf_5 : decode cX11_gapOf 5 = .ok (.ifCond .gt 11, 3) := by decide +kernel
theorem dX11_gapOf_8 : decode cX11_gapOf 8 = .ok (.iload_n 0, 1) := by decide +kernel
theorem dX11_gapOf_9 : decode cX11_gapOf 9 = .ok (.iload_n 3, 1) := by decide +kernel
theorem dX11_gapOf_10 : decode cX11_gapOf 10 = .ok (.ishr, 1) := by decide +kernel
theorem dX11_gapOf_11 : decode cX11_gapOf 11 = .ok (.iconst 1, 1) := by decide +kernel
theorem dX11_gapOf_12 : decode cX11_gapOf 12 = .ok (.iand, 1) := by decide +kernel
theorem dX11_gapOf_13 : decode cX11_gapOf 13 = .ok (.ifCond .ne 17, 3) := by decide +kernel
theorem dX11_gapOf_16 : decode cX11_gapOf 16 = .ok (.iload_n 2, 1) := by decide +kernel
theorem dX11_gapOf_17 : decode cX11_gapOf 17 = .ok (.iload_n 0, 1) := by decide +kernel
theorem dX11_gapOf_18 : decode cX11_gapOf 18 = .ok (.iload_n 3, 1) := by decide +kernel
theorem dX11_gapOf_19 : decode cX11_gapOf 19 = .ok (.ishr, 1) := by decide +kernel
theorem dX11_gapOf_20 : decode cX11_gapOf 20 = .ok (.iconst 1, 1) := by decide +kernel
theorem dX11_gapOf_21 : decode cX11_gapOf 21 = .ok (.iand, 1) := by decide +kernel
theorem dX11_gapOf_22 : decode cX11_gapOf 22 = .ok (.isub, 1) := by decide +kernel
theorem dX11_gapOf_23 : decode cX11_gapOf 23 = .ok (.istore_n 2, 1) := by decide +kernel
theorem dX11_gapOf_24 : decode cX11_gapOf 24 = .ok (.iinc 3 1, 3) := by decide +kernel
theorem dX11_gapOf_27 : decode cX11_gapOf 27 = .ok (.goto (-23), 3) := by decide +kernel
theorem dX11_gapOf_30 : decode cX11_gapOf 30 = .ok (.iload_n 3, 1) := by decide +kernel
theorem dX11_gapOf_31 : decode cX11_gapOf 31 = .ok (.ireturn, 1) := by decide +kernel
theorem dX11_many_0 : decode cX11_many 0 = .ok (.iconst 0, 1) := by decide +kernel
theorem dX11_many_1 : decode cX11_many 1 = .ok (.istore_n 1, 1) := by decide +kernel
theorem dX11_many_2 : decode cX11_many 2 = .ok (.iconst 0, 1) := by decide +kernel
theorem dX11_many_3 : decode cX11_many 3 = .ok (.istore_n 2, 1) := by decide +kernel
theorem dX11_many_4 : decode cX11_many 4 = .ok (.iload_n 2, 1) := by decide +kernel
theorem dX11_many_5 : decode cX11_many 5 = .ok (.bipush 12, 2) := by decide +kernel
theorem dX11_many_7 : decode cX11_many 7 = .ok (.if_icmp .ge 17, 3) := by decide +kernel
theorem dX11_many_10 : decode cX11_many 10 = .ok (.iload_n 1, 1) := by decide +kernel
theorem dX11_many_11 : decode cX11_many 11 = .ok (.iload_n 0, 1) := by decide +kernel
theorem dX11_many_12 : decode cX11_many 12 = .ok (.iload_n 2, 1) := by decide +kernel
theorem dX11_many_13 : decode cX11_many 13 = .ok (.ishr, 1) := by decide +kernel
theorem dX11_many_14 : decode cX11_many 14 = .ok (.iconst 1, 1) := by decide +kernel
theorem dX11_many_15 : decode cX11_many 15 = .ok (.iand, 1) := by decide +kernel
theorem dX11_many_16 : decode cX11_many 16 = .ok (.iadd, 1) := by decide +kernel
theorem dX11_many_17 : decode cX11_many 17 = .ok (.istore_n 1, 1) := by decide +kernel
theorem dX11_many_18 : decode cX11_many 18 = .ok (.iinc 2 1, 3) := by decide +kernel
theorem dX11_many_21 : decode cX11_many 21 = .ok (.goto (-17), 3) := by decide +kernel
theorem dX11_many_24 : decode cX11_many 24 = .ok (.iload_n 1, 1) := by decide +kernel
theorem dX11_many_25 : decode cX11_many 25 = .ok (.ireturn, 1) := by decide +kernel
theorem dX11_isAhead_0 : decode cX11_isAhead 0 = .ok (.iload_n 0, 1) := by decide +kernel
theorem dX11_isAhead_1 : decode cX11_isAhead 1 = .ok (.iload_n 1, 1) := by decide +kernel
theorem dX11_isAhead_2 : decode cX11_isAhead 2 = .ok (.ixor, 1) := by decide +kernel
theorem dX11_isAhead_3 : decode cX11_isAhead 3 = .ok (.istore_n 2, 1) := by decide +kernel
theorem dX11_isAhead_4 : decode cX11_isAhead 4 = .ok (.iload_n 0, 1) := by decide +kernel
theorem dX11_isAhead_5 : decode cX11_isAhead 5 = .ok (.iload_n 2, 1) := by decide +kernel
theorem dX11_isAhead_6 : decode cX11_isAhead 6 = .ok (.iand, 1) := by decide +kernel
theorem dX11_isAhead_7 : decode cX11_isAhead 7 = .ok (.iload_n 2, 1) := by decide +kernel
theorem dX11_isAhead_8 : decode cX11_isAhead 8 = .ok (.ineg, 1) := by decide +kernel
theorem dX11_isAhead_9 : decode cX11_isAhead 9 = .ok (.iand, 1) := by decide +kernel
theorem dX11_isAhead_10 : decode cX11_isAhead 10 = .ok (.ifCond .eq 7, 3) := by decide +kernel
theorem dX11_isAhead_13 : decode cX11_isAhead 13 = .ok (.iconst 1, 1) := by decide +kernel
theorem dX11_isAhead_14 : decode cX11_isAhead 14 = .ok (.goto 4, 3) := by decide +kernel
theorem dX11_isAhead_17 : decode cX11_isAhead 17 = .ok (.iconst 0, 1) := by decide +kernel
theorem dX11_isAhead_18 : decode cX11_isAhead 18 = .ok (.ireturn, 1) := by decide +kernel
theorem dX11_cats_0 : decode cX11_cats 0 = .ok (.iload_n 1, 1) := by decide +kernel
theorem dX11_cats_1 : decode cX11_cats 1 = .ok (.i2l, 1) := by decide +kernel
theorem dX11_cats_2 : decode cX11_cats 2 = .ok (.lconst 1, 1) := by decide +kernel
theorem dX11_cats_3 : decode cX11_cats 3 = .ok (.ldc2_w 101, 3) := by decide +kernel
theorem dX11_cats_6 : decode cX11_cats 6 = .ok (.invokestatic 86, 3) := by decide +kernel
theorem dX11_cats_9 : decode cX11_cats 9 = .ok (.ifCond .eq 30, 3) := by decide +kernel
theorem dX11_cats_12 : decode cX11_cats 12 = .ok (.iload_n 2, 1) := by decide +kernel
theorem dX11_cats_13 : decode cX11_cats 13 = .ok (.i2l, 1) := by decide +kernel
theorem dX11_cats_14 : decode cX11_cats 14 = .ok (.lconst 1, 1) := by decide +kernel
theorem dX11_cats_15 : decode cX11_cats 15 = .ok (.ldc2_w 175, 3) := by decide +kernel
theorem dX11_cats_18 : decode cX11_cats 18 = .ok (.invokestatic 86, 3) := by decide +kernel
theorem dX11_cats_21 : decode cX11_cats 21 = .ok (.ifCond .eq 18, 3) := by decide +kernel
theorem dX11_cats_24 : decode cX11_cats 24 = .ok (.iload_n 3, 1) := by decide +kernel
theorem dX11_cats_25 : decode cX11_cats 25 = .ok (.i2l, 1) := by decide +kernel
theorem dX11_cats_26 : decode cX11_cats 26 = .ok (.ldc2_w 169, 3) := by decide +kernel
theorem dX11_cats_29 : decode cX11_cats 29 = .ok (.iload_n 1, 1) := by decide +kernel
theorem dX11_cats_30 : decode cX11_cats 30 = .ok (.iconst 1, 1) := by decide +kernel
theorem dX11_cats_31 : decode cX11_cats 31 = .ok (.isub, 1) := by decide +kernel
theorem dX11_cats_32 : decode cX11_cats 32 = .ok (.i2l, 1) := by decide +kernel
theorem dX11_cats_33 : decode cX11_cats 33 = .ok (.invokestatic 86, 3) := by decide +kernel
theorem dX11_cats_36 : decode cX11_cats 36 = .ok (.ifCond .ne 5, 3) := by decide +kernel
theorem dX11_cats_39 : decode cX11_cats 39 = .ok (.iconst (-1), 1) := by decide +kernel
theorem dX11_cats_40 : decode cX11_cats 40 = .ok (.ireturn, 1) := by decide +kernel
theorem dX11_cats_41 : decode cX11_cats 41 = .ok (.iconst 0, 1) := by decide +kernel
theorem dX11_cats_42 : decode cX11_cats 42 = .ok (.istore 4, 2) := by decide +kernel
theorem dX11_cats_44 : decode cX11_cats 44 = .ok (.iconst 0, 1) := by decide +kernel
theorem dX11_cats_45 : decode cX11_cats 45 = .ok (.istore 5, 2) := by decide +kernel
theorem dX11_cats_47 : decode cX11_cats 47 = .ok (.iload 5, 2) := by decide +kernel
theorem dX11_cats_49 : decode cX11_cats 49 = .ok (.aload_n 0, 1) := by decide +kernel
theorem dX11_cats_50 : decode cX11_cats 50 = .ok (.getfield 123, 3) := by decide +kernel
theorem dX11_cats_53 : decode cX11_cats 53 = .ok (.if_icmp .ge 32, 3) := by decide +kernel
theorem dX11_cats_56 : decode cX11_cats 56 = .ok (.iload 4, 2) := by decide +kernel
theorem dX11_cats_58 : decode cX11_cats 58 = .ok (.aload_n 0, 1) := by decide +kernel
theorem dX11_cats_59 : decode cX11_cats 59 = .ok (.getfield 44, 3) := by decide +kernel
theorem dX11_cats_62 : decode cX11_cats 62 = .ok (.iload 5, 2) := by decide +kernel
theorem dX11_cats_64 : decode cX11_cats 64 = .ok (.baload, 1) := by decide +kernel
theorem dX11_cats_65 : decode cX11_cats 65 = .ok (.ifCond .eq 7, 3) := by decide +kernel
theorem dX11_cats_68 : decode cX11_cats 68 = .ok (.iconst 0, 1) := by decide +kernel
theorem dX11_cats_69 : decode cX11_cats 69 = .ok (.goto 7, 3) := by decide +kernel
theorem dX11_cats_72 : decode cX11_cats 72 = .ok (.iconst 1, 1) := by decide +kernel
theorem dX11_cats_73 : decode cX11_cats 73 = .ok (.iload 5, 2) := by decide +kernel
theorem dX11_cats_75 : decode cX11_cats 75 = .ok (.ishl, 1) := by decide +kernel
theorem dX11_cats_76 : decode cX11_cats 76 = .ok (.ior, 1) := by decide +kernel
theorem dX11_cats_77 : decode cX11_cats 77 = .ok (.istore 4, 2) := by decide +kernel
theorem dX11_cats_79 : decode cX11_cats 79 = .ok (.iinc 5 1, 3) := by decide +kernel
theorem dX11_cats_82 : decode cX11_cats 82 = .ok (.goto (-35), 3) := by decide +kernel
theorem dX11_cats_85 : decode cX11_cats 85 = .ok (.bipush (-4), 2) := by decide +kernel
theorem dX11_cats_87 : decode cX11_cats 87 = .ok (.istore 5, 2) := by decide +kernel
theorem dX11_cats_89 : decode cX11_cats 89 = .ok (.iconst 0, 1) := by decide +kernel
theorem dX11_cats_90 : decode cX11_cats 90 = .ok (.istore 6, 2) := by decide +kernel
theorem dX11_cats_92 : decode cX11_cats 92 = .ok (.iconst 0, 1) := by decide +kernel
theorem dX11_cats_93 : decode cX11_cats 93 = .ok (.istore 7, 2) := by decide +kernel
theorem dX11_cats_95 : decode cX11_cats 95 = .ok (.iload 7, 2) := by decide +kernel
theorem dX11_cats_97 : decode cX11_cats 97 = .ok (.iconst 1, 1) := by decide +kernel
theorem dX11_cats_98 : decode cX11_cats 98 = .ok (.aload_n 0, 1) := by decide +kernel
theorem dX11_cats_99 : decode cX11_cats 99 = .ok (.getfield 123, 3) := by decide +kernel
theorem dX11_cats_102 : decode cX11_cats 102 = .ok (.ishl, 1) := by decide +kernel
theorem dX11_cats_103 : decode cX11_cats 103 = .ok (.if_icmp .ge 124, 3) := by decide +kernel
theorem dX11_cats_106 : decode cX11_cats 106 = .ok (.iload 7, 2) := by decide +kernel
theorem dX11_cats_108 : decode cX11_cats 108 = .ok (.iload 4, 2) := by decide +kernel
theorem dX11_cats_110 : decode cX11_cats 110 = .ok (.iconst (-1), 1) := by decide +kernel
theorem dX11_cats_111 : decode cX11_cats 111 = .ok (.ixor, 1) := by decide +kernel
theorem dX11_cats_112 : decode cX11_cats 112 = .ok (.iand, 1) := by decide +kernel
theorem dX11_cats_113 : decode cX11_cats 113 = .ok (.ifCond .ne 108, 3) := by decide +kernel
theorem dX11_cats_116 : decode cX11_cats 116 = .ok (.iload 7, 2) := by decide +kernel
theorem dX11_cats_118 : decode cX11_cats 118 = .ok (.invokestatic 196, 3) := by decide +kernel
theorem dX11_cats_121 : decode cX11_cats 121 = .ok (.iload_n 1, 1) := by decide +kernel
theorem dX11_cats_122 : decode cX11_cats 122 = .ok (.if_icmp .ne 99, 3) := by decide +kernel
theorem dX11_cats_125 : decode cX11_cats 125 = .ok (.aload_n 0, 1) := by decide +kernel
theorem dX11_cats_126 : decode cX11_cats 126 = .ok (.invokevirtual 160, 3) := by decide +kernel
theorem dX11_cats_129 : decode cX11_cats 129 = .ok (.aload_n 0, 1) := by decide +kernel
theorem dX11_cats_130 : decode cX11_cats 130 = .ok (.iload 7, 2) := by decide +kernel
theorem dX11_cats_132 : decode cX11_cats 132 = .ok (.putfield 133, 3) := by decide +kernel
theorem dX11_cats_135 : decode cX11_cats 135 = .ok (.aload_n 0, 1) := by decide +kernel
theorem dX11_cats_136 : decode cX11_cats 136 = .ok (.aload_n 0, 1) := by decide +kernel
theorem dX11_cats_137 : decode cX11_cats 137 = .ok (.getfield 23, 3) := by decide +kernel
theorem dX11_cats_140 : decode cX11_cats 140 = .ok (.iconst 1, 1) := by decide +kernel
theorem dX11_cats_141 : decode cX11_cats 141 = .ok (.iaload, 1) := by decide +kernel
theorem dX11_cats_142 : decode cX11_cats 142 = .ok (.aload_n 0, 1) := by decide +kernel
theorem dX11_cats_143 : decode cX11_cats 143 = .ok (.getfield 136, 3) := by decide +kernel
theorem dX11_cats_146 : decode cX11_cats 146 = .ok (.iload_n 2, 1) := by decide +kernel
theorem dX11_cats_147 : decode cX11_cats 147 = .ok (.invokevirtual 166, 3) := by decide +kernel
theorem dX11_cats_150 : decode cX11_cats 150 = .ok (.istore 8, 2) := by decide +kernel
theorem dX11_cats_152 : decode cX11_cats 152 = .ok (.aload_n 0, 1) := by decide +kernel
theorem dX11_cats_153 : decode cX11_cats 153 = .ok (.iconst 0, 1) := by decide +kernel
theorem dX11_cats_154 : decode cX11_cats 154 = .ok (.putfield 133, 3) := by decide +kernel
theorem dX11_cats_157 : decode cX11_cats 157 = .ok (.iload 5, 2) := by decide +kernel
theorem dX11_cats_159 : decode cX11_cats 159 = .ok (.ifCond .lt 27, 3) := by decide +kernel
theorem dX11_cats_162 : decode cX11_cats 162 = .ok (.iload 8, 2) := by decide +kernel
theorem dX11_cats_164 : decode cX11_cats 164 = .ok (.iload 5, 2) := by decide +kernel
theorem dX11_cats_166 : decode cX11_cats 166 = .ok (.if_icmp .lt 20, 3) := by decide +kernel
theorem dX11_cats_169 : decode cX11_cats 169 = .ok (.iload 8, 2) := by decide +kernel
theorem dX11_cats_171 : decode cX11_cats 171 = .ok (.iload 5, 2) := by decide +kernel
theorem dX11_cats_173 : decode cX11_cats 173 = .ok (.if_icmp .ne 17, 3) := by decide +kernel
theorem dX11_cats_176 : decode cX11_cats 176 = .ok (.iload 7, 2) := by decide +kernel
theorem dX11_cats_178 : decode cX11_cats 178 = .ok (.iload 6, 2) := by decide +kernel
theorem dX11_cats_180 : decode cX11_cats 180 = .ok (.invokestatic 199, 3) := by decide +kernel
theorem dX11_cats_183 : decode cX11_cats 183 = .ok (.ifCond .eq 7, 3) := by decide +kernel
theorem dX11_cats_186 : decode cX11_cats 186 = .ok (.iconst 1, 1) := by decide +kernel
theorem dX11_cats_187 : decode cX11_cats 187 = .ok (.goto 4, 3) := by decide +kernel
theorem dX11_cats_190 : decode cX11_cats 190 = .ok (.iconst 0, 1) := by decide +kernel
theorem dX11_cats_191 : decode cX11_cats 191 = .ok (.istore 9, 2) := by decide +kernel
theorem dX11_cats_193 : decode cX11_cats 193 = .ok (.iload 9, 2) := by decide +kernel
theorem dX11_cats_195 : decode cX11_cats 195 = .ok (.ifCond .eq 8, 3) := by decide +kernel
theorem dX11_cats_198 : decode cX11_cats 198 = .ok (.iload 7, 2) := by decide +kernel
theorem dX11_cats_200 : decode cX11_cats 200 = .ok (.goto 5, 3) := by decide +kernel
theorem dX11_cats_203 : decode cX11_cats 203 = .ok (.iload 6, 2) := by decide +kernel
theorem dX11_cats_205 : decode cX11_cats 205 = .ok (.istore 6, 2) := by decide +kernel
theorem dX11_cats_207 : decode cX11_cats 207 = .ok (.iload 9, 2) := by decide +kernel
theorem dX11_cats_209 : decode cX11_cats 209 = .ok (.ifCond .eq 8, 3) := by decide +kernel
theorem dX11_cats_212 : decode cX11_cats 212 = .ok (.iload 8, 2) := by decide +kernel
theorem dX11_cats_214 : decode cX11_cats 214 = .ok (.goto 5, 3) := by decide +kernel
theorem dX11_cats_217 : decode cX11_cats 217 = .ok (.iload 5, 2) := by decide +kernel
theorem dX11_cats_219 : decode cX11_cats 219 = .ok (.istore 5, 2) := by decide +kernel
theorem dX11_cats_221 : decode cX11_cats 221 = .ok (.iinc 7 1, 3) := by decide +kernel
theorem dX11_cats_224 : decode cX11_cats 224 = .ok (.goto (-129), 3) := by decide +kernel
theorem dX11_cats_227 : decode cX11_cats 227 = .ok (.iload 5, 2) := by decide +kernel
theorem dX11_cats_229 : decode cX11_cats 229 = .ok (.ifCond .lt 7, 3) := by decide +kernel
theorem dX11_cats_232 : decode cX11_cats 232 = .ok (.iload_n 3, 1) := by decide +kernel
theorem dX11_cats_233 : decode cX11_cats 233 = .ok (.ifCond .ge 8, 3) := by decide +kernel
theorem dX11_cats_236 : decode cX11_cats 236 = .ok (.iload 5, 2) := by decide +kernel
theorem dX11_cats_238 : decode cX11_cats 238 = .ok (.goto 9, 3) := by decide +kernel
theorem dX11_cats_241 : decode cX11_cats 241 = .ok (.iload 6, 2) := by decide +kernel
theorem dX11_cats_243 : decode cX11_cats 243 = .ok (.iload_n 3, 1) := by decide +kernel
theorem dX11_cats_244 : decode cX11_cats 244 = .ok (.invokestatic 202, 3) := by decide +kernel
theorem dX11_cats_247 : decode cX11_cats 247 = .ok (.ireturn, 1) := by decide +kernel
theorem dX11_isMove_0 : decode cX11_isMove 0 = .ok (.aload_n 0, 1) := by decide +kernel
theorem dX11_isMove_1 : decode cX11_isMove 1 = .ok (.iconst 0, 1) := by decide +kernel
theorem dX11_isMove_2 : decode cX11_isMove 2 = .ok (.iconst 0, 1) := by decide +kernel
theorem dX11_isMove_3 : decode cX11_isMove 3 = .ok (.iload_n 1, 1) := by decide +kernel
theorem dX11_isMove_4 : decode cX11_isMove 4 = .ok (.invokevirtual 183, 3) := by decide +kernel
theorem dX11_isMove_7 : decode cX11_isMove 7 = .ok (.istore_n 2, 1) := by decide +kernel
theorem dX11_isMove_8 : decode cX11_isMove 8 = .ok (.iconst (-1), 1) := by decide +kernel
theorem dX11_isMove_9 : decode cX11_isMove 9 = .ok (.istore_n 3, 1) := by decide +kernel
theorem dX11_isMove_10 : decode cX11_isMove 10 = .ok (.iconst (-1), 1) := by decide +kernel
theorem dX11_isMove_11 : decode cX11_isMove 11 = .ok (.istore 4, 2) := by decide +kernel
theorem dX11_isMove_13 : decode cX11_isMove 13 = .ok (.iconst 0, 1) := by decide +kernel
theorem dX11_isMove_14 : decode cX11_isMove 14 = .ok (.istore 5, 2) := by decide +kernel
theorem dX11_isMove_16 : decode cX11_isMove 16 = .ok (.iload 5, 2) := by decide +kernel
theorem dX11_isMove_18 : decode cX11_isMove 18 = .ok (.aload_n 0, 1) := by decide +kernel
theorem dX11_isMove_19 : decode cX11_isMove 19 = .ok (.getfield 13, 3) := by decide +kernel
theorem dX11_isMove_22 : decode cX11_isMove 22 = .ok (.iconst 0, 1) := by decide +kernel
theorem dX11_isMove_23 : decode cX11_isMove 23 = .ok (.iaload, 1) := by decide +kernel
theorem dX11_isMove_24 : decode cX11_isMove 24 = .ok (.if_icmp .ge 85, 3) := by decide +kernel
theorem dX11_isMove_27 : decode cX11_isMove 27 = .ok (.iload 5, 2) := by decide +kernel
theorem dX11_isMove_29 : decode cX11_isMove 29 = .ok (.iconst 1, 1) := by decide +kernel
theorem dX11_isMove_30 : decode cX11_isMove 30 = .ok (.iadd, 1) := by decide +kernel
theorem dX11_isMove_31 : decode cX11_isMove 31 = .ok (.istore 6, 2) := by decide +kernel
theorem dX11_isMove_33 : decode cX11_isMove 33 = .ok (.iload 6, 2) := by decide +kernel
theorem dX11_isMove_35 : decode cX11_isMove 35 = .ok (.aload_n 0, 1) := by decide +kernel
theorem dX11_isMove_36 : decode cX11_isMove 36 = .ok (.getfield 13, 3) := by decide +kernel
theorem dX11_isMove_39 : decode cX11_isMove 39 = .ok (.iconst 0, 1) := by decide +kernel
theorem dX11_isMove_40 : decode cX11_isMove 40 = .ok (.iaload, 1) := by decide +kernel
theorem dX11_isMove_41 : decode cX11_isMove 41 = .ok (.if_icmp .ge 62, 3) := by decide +kernel
theorem dX11_isMove_44 : decode cX11_isMove 44 = .ok (.aload_n 0, 1) := by decide +kernel
theorem dX11_isMove_45 : decode cX11_isMove 45 = .ok (.getfield 20, 3) := by decide +kernel
theorem dX11_isMove_48 : decode cX11_isMove 48 = .ok (.iload 5, 2) := by decide +kernel
theorem dX11_isMove_50 : decode cX11_isMove 50 = .ok (.iaload, 1) := by decide +kernel
theorem dX11_isMove_51 : decode cX11_isMove 51 = .ok (.iload_n 1, 1) := by decide +kernel
theorem dX11_isMove_52 : decode cX11_isMove 52 = .ok (.if_icmp .ne 51, 3) := by decide +kernel
theorem dX11_isMove_55 : decode cX11_isMove 55 = .ok (.aload_n 0, 1) := by decide +kernel
theorem dX11_isMove_56 : decode cX11_isMove 56 = .ok (.getfield 20, 3) := by decide +kernel
theorem dX11_isMove_59 : decode cX11_isMove 59 = .ok (.iload 6, 2) := by decide +kernel
theorem dX11_isMove_61 : decode cX11_isMove 61 = .ok (.iaload, 1) := by decide +kernel
theorem dX11_isMove_62 : decode cX11_isMove 62 = .ok (.iload_n 1, 1) := by decide +kernel
theorem dX11_isMove_63 : decode cX11_isMove 63 = .ok (.if_icmp .ne 15, 3) := by decide +kernel
theorem dX11_isMove_66 : decode cX11_isMove 66 = .ok (.aload_n 0, 1) := by decide +kernel
theorem dX11_isMove_67 : decode cX11_isMove 67 = .ok (.iload 5, 2) := by decide +kernel
theorem dX11_isMove_69 : decode cX11_isMove 69 = .ok (.iload 6, 2) := by decide +kernel
theorem dX11_isMove_71 : decode cX11_isMove 71 = .ok (.iload_n 1, 1) := by decide +kernel
theorem dX11_isMove_72 : decode cX11_isMove 72 = .ok (.invokevirtual 183, 3) := by decide +kernel
theorem dX11_isMove_75 : decode cX11_isMove 75 = .ok (.goto 4, 3) := by decide +kernel
theorem dX11_isMove_78 : decode cX11_isMove 78 = .ok (.iload_n 2, 1) := by decide +kernel
theorem dX11_isMove_79 : decode cX11_isMove 79 = .ok (.istore 7, 2) := by decide +kernel
theorem dX11_isMove_81 : decode cX11_isMove 81 = .ok (.iload 7, 2) := by decide +kernel
theorem dX11_isMove_83 : decode cX11_isMove 83 = .ok (.iload_n 2, 1) := by decide +kernel
theorem dX11_isMove_84 : decode cX11_isMove 84 = .ok (.if_icmp .ge 13, 3) := by decide +kernel
theorem dX11_isMove_87 : decode cX11_isMove 87 = .ok (.iload 7, 2) := by decide +kernel
theorem dX11_isMove_89 : decode cX11_isMove 89 = .ok (.istore_n 2, 1) := by decide +kernel
theorem dX11_isMove_90 : decode cX11_isMove 90 = .ok (.iload 5, 2) := by decide +kernel
theorem dX11_isMove_92 : decode cX11_isMove 92 = .ok (.istore_n 3, 1) := by decide +kernel
theorem dX11_isMove_93 : decode cX11_isMove 93 = .ok (.iload 6, 2) := by decide +kernel
theorem dX11_isMove_95 : decode cX11_isMove 95 = .ok (.istore 4, 2) := by decide +kernel
theorem dX11_isMove_97 : decode cX11_isMove 97 = .ok (.iinc 6 1, 3) := by decide +kernel
theorem dX11_isMove_100 : decode cX11_isMove 100 = .ok (.goto (-67), 3) := by decide +kernel
theorem dX11_isMove_103 : decode cX11_isMove 103 = .ok (.iinc 5 1, 3) := by decide +kernel
theorem dX11_isMove_106 : decode cX11_isMove 106 = .ok (.goto (-90), 3) := by decide +kernel
theorem dX11_isMove_109 : decode cX11_isMove 109 = .ok (.iload_n 3, 1) := by decide +kernel
theorem dX11_isMove_110 : decode cX11_isMove 110 = .ok (.ifCond .lt 10, 3) := by decide +kernel
theorem dX11_isMove_113 : decode cX11_isMove 113 = .ok (.aload_n 0, 1) := by decide +kernel
theorem dX11_isMove_114 : decode cX11_isMove 114 = .ok (.iload_n 3, 1) := by decide +kernel
theorem dX11_isMove_115 : decode cX11_isMove 115 = .ok (.iload 4, 2) := by decide +kernel
theorem dX11_isMove_117 : decode cX11_isMove 117 = .ok (.invokevirtual 180, 3) := by decide +kernel
theorem dX11_isMove_120 : decode cX11_isMove 120 = .ok (.iload_n 3, 1) := by decide +kernel
theorem dX11_isMove_121 : decode cX11_isMove 121 = .ok (.ifCond .lt 7, 3) := by decide +kernel
theorem dX11_isMove_124 : decode cX11_isMove 124 = .ok (.iconst 1, 1) := by decide +kernel
theorem dX11_isMove_125 : decode cX11_isMove 125 = .ok (.goto 4, 3) := by decide +kernel
theorem dX11_isMove_128 : decode cX11_isMove 128 = .ok (.iconst 0, 1) := by decide +kernel
theorem dX11_isMove_129 : decode cX11_isMove 129 = .ok (.ireturn, 1) := by decide +kernel
theorem dX11_moves_0 : decode cX11_moves 0 = .ok (.iload_n 1, 1) := by decide +kernel
theorem dX11_moves_1 : decode cX11_moves 1 = .ok (.i2l, 1) := by decide +kernel
theorem dX11_moves_2 : decode cX11_moves 2 = .ok (.lconst 0, 1) := by decide +kernel
theorem dX11_moves_3 : decode cX11_moves 3 = .ok (.ldc2_w 117, 3) := by decide +kernel
theorem dX11_moves_6 : decode cX11_moves 6 = .ok (.invokestatic 86, 3) := by decide +kernel
theorem dX11_moves_9 : decode cX11_moves 9 = .ok (.ifCond .ne 5, 3) := by decide +kernel
theorem dX11_moves_12 : decode cX11_moves 12 = .ok (.iconst (-1), 1) := by decide +kernel
theorem dX11_moves_13 : decode cX11_moves 13 = .ok (.ireturn, 1) := by decide +kernel
theorem dX11_moves_14 : decode cX11_moves 14 = .ok (.iconst 0, 1) := by decide +kernel
theorem dX11_moves_15 : decode cX11_moves 15 = .ok (.istore_n 2, 1) := by decide +kernel
theorem dX11_moves_16 : decode cX11_moves 16 = .ok (.iload_n 2, 1) := by decide +kernel
theorem dX11_moves_17 : decode cX11_moves 17 = .ok (.bipush 8, 2) := by decide +kernel
theorem dX11_moves_19 : decode cX11_moves 19 = .ok (.if_icmp .ge 21, 3) := by decide +kernel
theorem dX11_moves_22 : decode cX11_moves 22 = .ok (.aload_n 0, 1) := by decide +kernel
theorem dX11_moves_23 : decode cX11_moves 23 = .ok (.getfield 69, 3) := by decide +kernel
theorem dX11_moves_26 : decode cX11_moves 26 = .ok (.iload_n 2, 1) := by decide +kernel
theorem dX11_moves_27 : decode cX11_moves 27 = .ok (.aload_n 0, 1) := by decide +kernel
theorem dX11_moves_28 : decode cX11_moves 28 = .ok (.getfield 48, 3) := by decide +kernel
theorem dX11_moves_31 : decode cX11_moves 31 = .ok (.iload_n 2, 1) := by decide +kernel
theorem dX11_moves_32 : decode cX11_moves 32 = .ok (.iaload, 1) := by decide +kernel
theorem dX11_moves_33 : decode cX11_moves 33 = .ok (.iastore, 1) := by decide +kernel
theorem dX11_moves_34 : decode cX11_moves 34 = .ok (.iinc 2 1, 3) := by decide +kernel
theorem dX11_moves_37 : decode cX11_moves 37 = .ok (.goto (-21), 3) := by decide +kernel
theorem dX11_moves_40 : decode cX11_moves 40 = .ok (.aload_n 0, 1) := by decide +kernel
theorem dX11_moves_41 : decode cX11_moves 41 = .ok (.iconst 0, 1) := by decide +kernel
theorem dX11_moves_42 : decode cX11_moves 42 = .ok (.putfield 205, 3) := by decide +kernel
theorem dX11_moves_45 : decode cX11_moves 45 = .ok (.iconst 0, 1) := by decide +kernel
theorem dX11_moves_46 : decode cX11_moves 46 = .ok (.istore_n 2, 1) := by decide +kernel
theorem dX11_moves_47 : decode cX11_moves 47 = .ok (.iconst 0, 1) := by decide +kernel
theorem dX11_moves_48 : decode cX11_moves 48 = .ok (.istore_n 3, 1) := by decide +kernel
theorem dX11_moves_49 : decode cX11_moves 49 = .ok (.iload_n 2, 1) := by decide +kernel
theorem dX11_moves_50 : decode cX11_moves 50 = .ok (.iconst 2, 1) := by decide +kernel
theorem dX11_moves_51 : decode cX11_moves 51 = .ok (.if_icmp .ge 58, 3) := by decide +kernel
theorem dX11_moves_54 : decode cX11_moves 54 = .ok (.aload_n 0, 1) := by decide +kernel
theorem dX11_moves_55 : decode cX11_moves 55 = .ok (.getfield 205, 3) := by decide +kernel
theorem dX11_moves_58 : decode cX11_moves 58 = .ok (.bipush 40, 2) := by decide +kernel
theorem dX11_moves_60 : decode cX11_moves 60 = .ok (.if_icmp .ge 49, 3) := by decide +kernel
theorem dX11_moves_63 : decode cX11_moves 63 = .ok (.aload_n 0, 1) := by decide +kernel
theorem dX11_moves_64 : decode cX11_moves 64 = .ok (.iload_n 3, 1) := by decide +kernel
theorem dX11_moves_65 : decode cX11_moves 65 = .ok (.invokevirtual 208, 3) := by decide +kernel
theorem dX11_moves_68 : decode cX11_moves 68 = .ok (.istore 4, 2) := by decide +kernel
theorem dX11_moves_70 : decode cX11_moves 70 = .ok (.aload_n 0, 1) := by decide +kernel
theorem dX11_moves_71 : decode cX11_moves 71 = .ok (.dup, 1) := by decide +kernel
theorem dX11_moves_72 : decode cX11_moves 72 = .ok (.getfield 205, 3) := by decide +kernel
theorem dX11_moves_75 : decode cX11_moves 75 = .ok (.iload 4, 2) := by decide +kernel
theorem dX11_moves_77 : decode cX11_moves 77 = .ok (.ifCond .eq 7, 3) := by decide +kernel
theorem dX11_moves_80 : decode cX11_moves 80 = .ok (.iconst 1, 1) := by decide +kernel
theorem dX11_moves_81 : decode cX11_moves 81 = .ok (.goto 4, 3) := by decide +kernel
theorem dX11_moves_84 : decode cX11_moves 84 = .ok (.iconst 0, 1) := by decide +kernel
theorem dX11_moves_85 : decode cX11_moves 85 = .ok (.iadd, 1) := by decide +kernel
theorem dX11_moves_86 : decode cX11_moves 86 = .ok (.putfield 205, 3) := by decide +kernel
theorem dX11_moves_89 : decode cX11_moves 89 = .ok (.iload 4, 2) := by decide +kernel
theorem dX11_moves_91 : decode cX11_moves 91 = .ok (.ifCond .eq 7, 3) := by decide +kernel
theorem dX11_moves_94 : decode cX11_moves 94 = .ok (.iconst 0, 1) := by decide +kernel
theorem dX11_moves_95 : decode cX11_moves 95 = .ok (.goto 6, 3) := by decide +kernel
theorem dX11_moves_98 : decode cX11_moves 98 = .ok (.iload_n 2, 1) := by decide +kernel
theorem dX11_moves_99 : decode cX11_moves 99 = .ok (.iconst 1, 1) := by decide +kernel
theorem dX11_moves_100 : decode cX11_moves 100 = .ok (.iadd, 1) := by decide +kernel
theorem dX11_moves_101 : decode cX11_moves 101 = .ok (.istore_n 2, 1) := by decide +kernel
theorem dX11_moves_102 : decode cX11_moves 102 = .ok (.iconst 1, 1) := by decide +kernel
theorem dX11_moves_103 : decode cX11_moves 103 = .ok (.iload_n 3, 1) := by decide +kernel
theorem dX11_moves_104 : decode cX11_moves 104 = .ok (.isub, 1) := by decide +kernel
theorem dX11_moves_105 : decode cX11_moves 105 = .ok (.istore_n 3, 1) := by decide +kernel
theorem dX11_moves_106 : decode cX11_moves 106 = .ok (.goto (-57), 3) := by decide +kernel
theorem dX11_moves_109 : decode cX11_moves 109 = .ok (.iload_n 1, 1) := by decide +kernel
theorem dX11_moves_110 : decode cX11_moves 110 = .ok (.ifCond .ne 7, 3) := by decide +kernel
theorem dX11_moves_113 : decode cX11_moves 113 = .ok (.iconst 0, 1) := by decide +kernel
theorem dX11_moves_114 : decode cX11_moves 114 = .ok (.goto 12, 3) := by decide +kernel
theorem dX11_moves_117 : decode cX11_moves 117 = .ok (.aload_n 0, 1) := by decide +kernel
theorem dX11_moves_118 : decode cX11_moves 118 = .ok (.iconst 0, 1) := by decide +kernel
theorem dX11_moves_119 : decode cX11_moves 119 = .ok (.iconst 0, 1) := by decide +kernel
theorem dX11_moves_120 : decode cX11_moves 120 = .ok (.iload_n 1, 1) := by decide +kernel
theorem dX11_moves_121 : decode cX11_moves 121 = .ok (.iconst 1, 1) := by decide +kernel
theorem dX11_moves_122 : decode cX11_moves 122 = .ok (.isub, 1) := by decide +kernel
theorem dX11_moves_123 : decode cX11_moves 123 = .ok (.invokevirtual 183, 3) := by decide +kernel
theorem dX11_moves_126 : decode cX11_moves 126 = .ok (.istore 4, 2) := by decide +kernel
theorem dX11_moves_128 : decode cX11_moves 128 = .ok (.iconst 0, 1) := by decide +kernel
theorem dX11_moves_129 : decode cX11_moves 129 = .ok (.istore 5, 2) := by decide +kernel
theorem dX11_moves_131 : decode cX11_moves 131 = .ok (.iload 5, 2) := by decide +kernel
theorem dX11_moves_133 : decode cX11_moves 133 = .ok (.bipush 8, 2) := by decide +kernel
theorem dX11_moves_135 : decode cX11_moves 135 = .ok (.if_icmp .ge 23, 3) := by decide +kernel
theorem dX11_moves_138 : decode cX11_moves 138 = .ok (.aload_n 0, 1) := by decide +kernel
theorem dX11_moves_139 : decode cX11_moves 139 = .ok (.getfield 48, 3) := by decide +kernel
theorem dX11_moves_142 : decode cX11_moves 142 = .ok (.iload 5, 2) := by decide +kernel
theorem dX11_moves_144 : decode cX11_moves 144 = .ok (.aload_n 0, 1) := by decide +kernel
theorem dX11_moves_145 : decode cX11_moves 145 = .ok (.getfield 69, 3) := by decide +kernel
theorem dX11_moves_148 : decode cX11_moves 148 = .ok (.iload 5, 2) := by decide +kernel
theorem dX11_moves_150 : decode cX11_moves 150 = .ok (.iaload, 1) := by decide +kernel
theorem dX11_moves_151 : decode cX11_moves 151 = .ok (.iastore, 1) := by decide +kernel
theorem dX11_moves_152 : decode cX11_moves 152 = .ok (.iinc 5 1, 3) := by decide +kernel
theorem dX11_moves_155 : decode cX11_moves 155 = .ok (.goto (-24), 3) := by decide +kernel
theorem dX11_moves_158 : decode cX11_moves 158 = .ok (.iload_n 1, 1) := by decide +kernel
theorem dX11_moves_159 : decode cX11_moves 159 = .ok (.ifCond .le 8, 3) := by decide +kernel
theorem dX11_moves_162 : decode cX11_moves 162 = .ok (.iload 4, 2) := by decide +kernel
theorem dX11_moves_164 : decode cX11_moves 164 = .ok (.goto 21, 3) := by decide +kernel
theorem dX11_moves_167 : decode cX11_moves 167 = .ok (.aload_n 0, 1) := by decide +kernel
theorem dX11_moves_168 : decode cX11_moves 168 = .ok (.getfield 205, 3) := by decide +kernel
theorem dX11_moves_171 : decode cX11_moves 171 = .ok (.bipush 40, 2) := by decide +kernel
theorem dX11_moves_173 : decode cX11_moves 173 = .ok (.if_icmp .ne 8, 3) := by decide +kernel
theorem dX11_moves_176 : decode cX11_moves 176 = .ok (.bipush (-4), 2) := by decide +kernel
theorem dX11_moves_178 : decode cX11_moves 178 = .ok (.goto 7, 3) := by decide +kernel
theorem dX11_moves_181 : decode cX11_moves 181 = .ok (.aload_n 0, 1) := by decide +kernel
theorem dX11_moves_182 : decode cX11_moves 182 = .ok (.getfield 205, 3) := by decide +kernel
theorem dX11_moves_185 : decode cX11_moves 185 = .ok (.ireturn, 1) := by decide +kernel
theorem dX11_was_0 : decode cX11_was 0 = .ok (.iload_n 1, 1) := by decide +kernel
theorem dX11_was_1 : decode cX11_was 1 = .ok (.i2l, 1) := by decide +kernel
theorem dX11_was_2 : decode cX11_was 2 = .ok (.lconst 0, 1) := by decide +kernel
theorem dX11_was_3 : decode cX11_was 3 = .ok (.ldc2_w 175, 3) := by decide +kernel
theorem dX11_was_6 : decode cX11_was 6 = .ok (.invokestatic 86, 3) := by decide +kernel
theorem dX11_was_9 : decode cX11_was 9 = .ok (.ifCond .eq 35, 3) := by decide +kernel
theorem dX11_was_12 : decode cX11_was 12 = .ok (.iload_n 2, 1) := by decide +kernel
theorem dX11_was_13 : decode cX11_was 13 = .ok (.i2l, 1) := by decide +kernel
theorem dX11_was_14 : decode cX11_was 14 = .ok (.lconst 0, 1) := by decide +kernel
theorem dX11_was_15 : decode cX11_was 15 = .ok (.ldc2_w 211, 3) := by decide +kernel
theorem dX11_was_18 : decode cX11_was 18 = .ok (.invokestatic 86, 3) := by decide +kernel
theorem dX11_was_21 : decode cX11_was 21 = .ok (.ifCond .eq 23, 3) := by decide +kernel
theorem dX11_was_24 : decode cX11_was 24 = .ok (.iload_n 3, 1) := by decide +kernel
theorem dX11_was_25 : decode cX11_was 25 = .ok (.i2l, 1) := by decide +kernel
theorem dX11_was_26 : decode cX11_was 26 = .ok (.ldc2_w 169, 3) := by decide +kernel
theorem dX11_was_29 : decode cX11_was 29 = .ok (.aload_n 0, 1) := by decide +kernel
theorem dX11_was_30 : decode cX11_was 30 = .ok (.getfield 13, 3) := by decide +kernel
theorem dX11_was_33 : decode cX11_was 33 = .ok (.iconst 0, 1) := by decide +kernel
theorem dX11_was_34 : decode cX11_was 34 = .ok (.iaload, 1) := by decide +kernel
theorem dX11_was_35 : decode cX11_was 35 = .ok (.iconst 1, 1) := by decide +kernel
theorem dX11_was_36 : decode cX11_was 36 = .ok (.isub, 1) := by decide +kernel
theorem dX11_was_37 : decode cX11_was 37 = .ok (.i2l, 1) := by decide +kernel
theorem dX11_was_38 : decode cX11_was 38 = .ok (.invokestatic 86, 3) := by decide +kernel
theorem dX11_was_41 : decode cX11_was 41 = .ok (.ifCond .ne 5, 3) := by decide +kernel
theorem dX11_was_44 : decode cX11_was 44 = .ok (.iconst (-1), 1) := by decide +kernel
theorem dX11_was_45 : decode cX11_was 45 = .ok (.ireturn, 1) := by decide +kernel
theorem dX11_was_46 : decode cX11_was 46 = .ok (.aload_n 0, 1) := by decide +kernel
theorem dX11_was_47 : decode cX11_was 47 = .ok (.getfield 13, 3) := by decide +kernel
theorem dX11_was_50 : decode cX11_was 50 = .ok (.iconst 0, 1) := by decide +kernel
theorem dX11_was_51 : decode cX11_was 51 = .ok (.iaload, 1) := by decide +kernel
theorem dX11_was_52 : decode cX11_was 52 = .ok (.iconst 4, 1) := by decide +kernel
theorem dX11_was_53 : decode cX11_was 53 = .ok (.if_icmp .le 6, 3) := by decide +kernel
theorem dX11_was_56 : decode cX11_was 56 = .ok (.bipush (-2), 2) := by decide +kernel
theorem dX11_was_58 : decode cX11_was 58 = .ok (.ireturn, 1) := by decide +kernel
theorem dX11_was_59 : decode cX11_was 59 = .ok (.iconst 1, 1) := by decide +kernel
theorem dX11_was_60 : decode cX11_was 60 = .ok (.istore 4, 2) := by decide +kernel
theorem dX11_was_62 : decode cX11_was 62 = .ok (.iconst 0, 1) := by decide +kernel
theorem dX11_was_63 : decode cX11_was 63 = .ok (.istore 5, 2) := by decide +kernel
theorem dX11_was_65 : decode cX11_was 65 = .ok (.iload 5, 2) := by decide +kernel
theorem dX11_was_67 : decode cX11_was 67 = .ok (.aload_n 0, 1) := by decide +kernel
theorem dX11_was_68 : decode cX11_was 68 = .ok (.getfield 13, 3) := by decide +kernel
theorem dX11_was_71 : decode cX11_was 71 = .ok (.iconst 0, 1) := by decide +kernel
theorem dX11_was_72 : decode cX11_was 72 = .ok (.iaload, 1) := by decide +kernel
theorem dX11_was_73 : decode cX11_was 73 = .ok (.if_icmp .ge 17, 3) := by decide +kernel
theorem dX11_was_76 : decode cX11_was 76 = .ok (.iload 4, 2) := by decide +kernel
theorem dX11_was_78 : decode cX11_was 78 = .ok (.iload_n 1, 1) := by decide +kernel
theorem dX11_was_79 : decode cX11_was 79 = .ok (.iconst 1, 1) := by decide +kernel
theorem dX11_was_80 : decode cX11_was 80 = .ok (.iadd, 1) := by decide +kernel
theorem dX11_was_81 : decode cX11_was 81 = .ok (.imul, 1) := by decide +kernel
theorem dX11_was_82 : decode cX11_was 82 = .ok (.istore 4, 2) := by decide +kernel
theorem dX11_was_84 : decode cX11_was 84 = .ok (.iinc 5 1, 3) := by decide +kernel
theorem dX11_was_87 : decode cX11_was 87 = .ok (.goto (-22), 3) := by decide +kernel
theorem dX11_was_90 : decode cX11_was 90 = .ok (.iconst 0, 1) := by decide +kernel
theorem dX11_was_91 : decode cX11_was 91 = .ok (.istore 5, 2) := by decide +kernel
theorem dX11_was_93 : decode cX11_was 93 = .ok (.iconst 0, 1) := by decide +kernel
theorem dX11_was_94 : decode cX11_was 94 = .ok (.istore 6, 2) := by decide +kernel
theorem dX11_was_96 : decode cX11_was 96 = .ok (.iload 6, 2) := by decide +kernel
theorem dX11_was_98 : decode cX11_was 98 = .ok (.iload 4, 2) := by decide +kernel
theorem dX11_was_100 : decode cX11_was 100 = .ok (.if_icmp .ge 179, 3) := by decide +kernel
theorem dX11_was_103 : decode cX11_was 103 = .ok (.iload 6, 2) := by decide +kernel
theorem dX11_was_105 : decode cX11_was 105 = .ok (.istore 7, 2) := by decide +kernel
theorem dX11_was_107 : decode cX11_was 107 = .ok (.aload_n 0, 1) := by decide +kernel
theorem dX11_was_108 : decode cX11_was 108 = .ok (.getfield 13, 3) := by decide +kernel
theorem dX11_was_111 : decode cX11_was 111 = .ok (.iconst 0, 1) := by decide +kernel
theorem dX11_was_112 : decode cX11_was 112 = .ok (.iaload, 1) := by decide +kernel
theorem dX11_was_113 : decode cX11_was 113 = .ok (.iconst 1, 1) := by decide +kernel
theorem dX11_was_114 : decode cX11_was 114 = .ok (.isub, 1) := by decide +kernel
theorem dX11_was_115 : decode cX11_was 115 = .ok (.istore 8, 2) := by decide +kernel
theorem dX11_was_117 : decode cX11_was 117 = .ok (.iload 8, 2) := by decide +kernel
theorem dX11_was_119 : decode cX11_was 119 = .ok (.ifCond .lt 44, 3) := by decide +kernel
theorem dX11_was_122 : decode cX11_was 122 = .ok (.aload_n 0, 1) := by decide +kernel
theorem dX11_was_123 : decode cX11_was 123 = .ok (.getfield 66, 3) := by decide +kernel
theorem dX11_was_126 : decode cX11_was 126 = .ok (.iload 8, 2) := by decide +kernel
theorem dX11_was_128 : decode cX11_was 128 = .ok (.iload 7, 2) := by decide +kernel
theorem dX11_was_130 : decode cX11_was 130 = .ok (.iload_n 1, 1) := by decide +kernel
theorem dX11_was_131 : decode cX11_was 131 = .ok (.iconst 1, 1) := by decide +kernel
theorem dX11_was_132 : decode cX11_was 132 = .ok (.iadd, 1) := by decide +kernel
theorem dX11_was_133 : decode cX11_was 133 = .ok (.irem, 1) := by decide +kernel
theorem dX11_was_134 : decode cX11_was 134 = .ok (.iastore, 1) := by decide +kernel
theorem dX11_was_135 : decode cX11_was 135 = .ok (.aload_n 0, 1) := by decide +kernel
theorem dX11_was_136 : decode cX11_was 136 = .ok (.getfield 57, 3) := by decide +kernel
theorem dX11_was_139 : decode cX11_was 139 = .ok (.iload 8, 2) := by decide +kernel
theorem dX11_was_141 : decode cX11_was 141 = .ok (.aload_n 0, 1) := by decide +kernel
theorem dX11_was_142 : decode cX11_was 142 = .ok (.getfield 66, 3) := by decide +kernel
theorem dX11_was_145 : decode cX11_was 145 = .ok (.iload 8, 2) := by decide +kernel
theorem dX11_was_147 : decode cX11_was 147 = .ok (.iaload, 1) := by decide +kernel
theorem dX11_was_148 : decode cX11_was 148 = .ok (.iastore, 1) := by decide +kernel
theorem dX11_was_149 : decode cX11_was 149 = .ok (.iload 7, 2) := by decide +kernel
theorem dX11_was_151 : decode cX11_was 151 = .ok (.iload_n 1, 1) := by decide +kernel
theorem dX11_was_152 : decode cX11_was 152 = .ok (.iconst 1, 1) := by decide +kernel
theorem dX11_was_153 : decode cX11_was 153 = .ok (.iadd, 1) := by decide +kernel
theorem dX11_was_154 : decode cX11_was 154 = .ok (.idiv, 1) := by decide +kernel
theorem dX11_was_155 : decode cX11_was 155 = .ok (.istore 7, 2) := by decide +kernel
theorem dX11_was_157 : decode cX11_was 157 = .ok (.iinc 8 (-1), 3) := by decide +kernel
theorem dX11_was_160 : decode cX11_was 160 = .ok (.goto (-43), 3) := by decide +kernel
theorem dX11_was_163 : decode cX11_was 163 = .ok (.aload_n 0, 1) := by decide +kernel
theorem dX11_was_164 : decode cX11_was 164 = .ok (.aload_n 0, 1) := by decide +kernel
theorem dX11_was_165 : decode cX11_was 165 = .ok (.getfield 23, 3) := by decide +kernel
theorem dX11_was_168 : decode cX11_was 168 = .ok (.iconst 1, 1) := by decide +kernel
theorem dX11_was_169 : decode cX11_was 169 = .ok (.iaload, 1) := by decide +kernel
theorem dX11_was_170 : decode cX11_was 170 = .ok (.iload_n 2, 1) := by decide +kernel
theorem dX11_was_171 : decode cX11_was 171 = .ok (.invokevirtual 156, 3) := by decide +kernel
theorem dX11_was_174 : decode cX11_was 174 = .ok (.istore 8, 2) := by decide +kernel
theorem dX11_was_176 : decode cX11_was 176 = .ok (.iload 8, 2) := by decide +kernel
theorem dX11_was_178 : decode cX11_was 178 = .ok (.ifCond .lt 7, 3) := by decide +kernel
theorem dX11_was_181 : decode cX11_was 181 = .ok (.iconst 1, 1) := by decide +kernel
theorem dX11_was_182 : decode cX11_was 182 = .ok (.goto 4, 3) := by decide +kernel
theorem dX11_was_185 : decode cX11_was 185 = .ok (.iconst 0, 1) := by decide +kernel
theorem dX11_was_186 : decode cX11_was 186 = .ok (.istore 9, 2) := by decide +kernel
theorem dX11_was_188 : decode cX11_was 188 = .ok (.iconst 0, 1) := by decide +kernel
theorem dX11_was_189 : decode cX11_was 189 = .ok (.istore 10, 2) := by decide +kernel
theorem dX11_was_191 : decode cX11_was 191 = .ok (.iload 10, 2) := by decide +kernel
theorem dX11_was_193 : decode cX11_was 193 = .ok (.aload_n 0, 1) := by decide +kernel
theorem dX11_was_194 : decode cX11_was 194 = .ok (.getfield 13, 3) := by decide +kernel
theorem dX11_was_197 : decode cX11_was 197 = .ok (.iconst 0, 1) := by decide +kernel
theorem dX11_was_198 : decode cX11_was 198 = .ok (.iaload, 1) := by decide +kernel
theorem dX11_was_199 : decode cX11_was 199 = .ok (.if_icmp .ge 38, 3) := by decide +kernel
theorem dX11_was_202 : decode cX11_was 202 = .ok (.iload 9, 2) := by decide +kernel
theorem dX11_was_204 : decode cX11_was 204 = .ok (.ifCond .eq 24, 3) := by decide +kernel
theorem dX11_was_207 : decode cX11_was 207 = .ok (.aload_n 0, 1) := by decide +kernel
theorem dX11_was_208 : decode cX11_was 208 = .ok (.getfield 57, 3) := by decide +kernel
theorem dX11_was_211 : decode cX11_was 211 = .ok (.iload 10, 2) := by decide +kernel
theorem dX11_was_213 : decode cX11_was 213 = .ok (.iaload, 1) := by decide +kernel
theorem dX11_was_214 : decode cX11_was 214 = .ok (.aload_n 0, 1) := by decide +kernel
theorem dX11_was_215 : decode cX11_was 215 = .ok (.getfield 48, 3) := by decide +kernel
theorem dX11_was_218 : decode cX11_was 218 = .ok (.iload 10, 2) := by decide +kernel
theorem dX11_was_220 : decode cX11_was 220 = .ok (.iaload, 1) := by decide +kernel
theorem dX11_was_221 : decode cX11_was 221 = .ok (.if_icmp .ne 7, 3) := by decide +kernel
theorem dX11_was_224 : decode cX11_was 224 = .ok (.iconst 1, 1) := by decide +kernel
theorem dX11_was_225 : decode cX11_was 225 = .ok (.goto 4, 3) := by decide +kernel
theorem dX11_was_228 : decode cX11_was 228 = .ok (.iconst 0, 1) := by decide +kernel
theorem dX11_was_229 : decode cX11_was 229 = .ok (.istore 9, 2) := by decide +kernel
theorem dX11_was_231 : decode cX11_was 231 = .ok (.iinc 10 1, 3) := by decide +kernel
theorem dX11_was_234 : decode cX11_was 234 = .ok (.goto (-43), 3) := by decide +kernel
theorem dX11_was_237 : decode cX11_was 237 = .ok (.iload 9, 2) := by decide +kernel
theorem dX11_was_239 : decode cX11_was 239 = .ok (.ifCond .eq 19, 3) := by decide +kernel
theorem dX11_was_242 : decode cX11_was 242 = .ok (.iload 5, 2) := by decide +kernel
theorem dX11_was_244 : decode cX11_was 244 = .ok (.ifCond .ne 14, 3) := by decide +kernel
theorem dX11_was_247 : decode cX11_was 247 = .ok (.iload_n 3, 1) := by decide +kernel
theorem dX11_was_248 : decode cX11_was 248 = .ok (.ifCond .lt 10, 3) := by decide +kernel
theorem dX11_was_251 : decode cX11_was 251 = .ok (.aload_n 0, 1) := by decide +kernel
theorem dX11_was_252 : decode cX11_was 252 = .ok (.getfield 66, 3) := by decide +kernel
theorem dX11_was_255 : decode cX11_was 255 = .ok (.iload_n 3, 1) := by decide +kernel
theorem dX11_was_256 : decode cX11_was 256 = .ok (.iaload, 1) := by decide +kernel
theorem dX11_was_257 : decode cX11_was 257 = .ok (.ireturn, 1) := by decide +kernel
theorem dX11_was_258 : decode cX11_was 258 = .ok (.iload 5, 2) := by decide +kernel
theorem dX11_was_260 : decode cX11_was 260 = .ok (.iload 9, 2) := by decide +kernel
theorem dX11_was_262 : decode cX11_was 262 = .ok (.ifCond .eq 7, 3) := by decide +kernel
theorem dX11_was_265 : decode cX11_was 265 = .ok (.iconst 1, 1) := by decide +kernel
theorem dX11_was_266 : decode cX11_was 266 = .ok (.goto 4, 3) := by decide +kernel
theorem dX11_was_269 : decode cX11_was 269 = .ok (.iconst 0, 1) := by decide +kernel
theorem dX11_was_270 : decode cX11_was 270 = .ok (.iadd, 1) := by decide +kernel
theorem dX11_was_271 : decode cX11_was 271 = .ok (.istore 5, 2) := by decide +kernel
theorem dX11_was_273 : decode cX11_was 273 = .ok (.iinc 6 1, 3) := by decide +kernel
theorem dX11_was_276 : decode cX11_was 276 = .ok (.goto (-180), 3) := by decide +kernel
theorem dX11_was_279 : decode cX11_was 279 = .ok (.iload_n 3, 1) := by decide +kernel
theorem dX11_was_280 : decode cX11_was 280 = .ok (.ifCond .ge 8, 3) := by decide +kernel
theorem dX11_was_283 : decode cX11_was 283 = .ok (.iload 5, 2) := by decide +kernel
theorem dX11_was_285 : decode cX11_was 285 = .ok (.goto 5, 3) := by decide +kernel
theorem dX11_was_288 : decode cX11_was 288 = .ok (.bipush (-4), 2) := by decide +kernel
theorem dX11_was_290 : decode cX11_was 290 = .ok (.ireturn, 1) := by decide +kernel
theorem dX11_others_0 : decode cX11_others 0 = .ok (.iload_n 1, 1) := by decide +kernel
theorem dX11_others_1 : decode cX11_others 1 = .ok (.i2l, 1) := by decide +kernel
theorem dX11_others_2 : decode cX11_others 2 = .ok (.lconst 0, 1) := by decide +kernel
theorem dX11_others_3 : decode cX11_others 3 = .ok (.ldc2_w 101, 3) := by decide +kernel
theorem dX11_others_6 : decode cX11_others 6 = .ok (.invokestatic 86, 3) := by decide +kernel
theorem dX11_others_9 : decode cX11_others 9 = .ok (.ifCond .eq 10, 3) := by decide +kernel
theorem dX11_others_12 : decode cX11_others 12 = .ok (.iload_n 2, 1) := by decide +kernel
theorem dX11_others_13 : decode cX11_others 13 = .ok (.invokestatic 163, 3) := by decide +kernel
theorem dX11_others_16 : decode cX11_others 16 = .ok (.ifCond .ne 5, 3) := by decide +kernel
theorem dX11_others_19 : decode cX11_others 19 = .ok (.iconst (-1), 1) := by decide +kernel
theorem dX11_others_20 : decode cX11_others 20 = .ok (.ireturn, 1) := by decide +kernel
theorem dX11_others_21 : decode cX11_others 21 = .ok (.aload_n 0, 1) := by decide +kernel
theorem dX11_others_22 : decode cX11_others 22 = .ok (.invokevirtual 160, 3) := by decide +kernel
theorem dX11_others_25 : decode cX11_others 25 = .ok (.aload_n 0, 1) := by decide +kernel
theorem dX11_others_26 : decode cX11_others 26 = .ok (.iload_n 1, 1) := by decide +kernel
theorem dX11_others_27 : decode cX11_others 27 = .ok (.aload_n 0, 1) := by decide +kernel
theorem dX11_others_28 : decode cX11_others 28 = .ok (.getfield 136, 3) := by decide +kernel
theorem dX11_others_31 : decode cX11_others 31 = .ok (.iload_n 2, 1) := by decide +kernel
theorem dX11_others_32 : decode cX11_others 32 = .ok (.invokevirtual 166, 3) := by decide +kernel
theorem dX11_others_35 : decode cX11_others 35 = .ok (.ireturn, 1) := by decide +kernel
theorem dX11_lostDrawn_0 : decode cX11_lostDrawn 0 = .ok (.aload_n 0, 1) := by decide +kernel
theorem dX11_lostDrawn_1 : decode cX11_lostDrawn 1 = .ok (.iconst 0, 1) := by decide +kernel
theorem dX11_lostDrawn_2 : decode cX11_lostDrawn 2 = .ok (.putfield 213, 3) := by decide +kernel
theorem dX11_lostDrawn_5 : decode cX11_lostDrawn 5 = .ok (.iconst 0, 1) := by decide +kernel
theorem dX11_lostDrawn_6 : decode cX11_lostDrawn 6 = .ok (.istore_n 3, 1) := by decide +kernel
theorem dX11_lostDrawn_7 : decode cX11_lostDrawn 7 = .ok (.iload_n 3, 1) := by decide +kernel
theorem dX11_lostDrawn_8 : decode cX11_lostDrawn 8 = .ok (.bipush 8, 2) := by decide +kernel
theorem dX11_lostDrawn_10 : decode cX11_lostDrawn 10 = .ok (.if_icmp .ge 75, 3) := by decide +kernel
theorem dX11_lostDrawn_13 : decode cX11_lostDrawn 13 = .ok (.ldc2_w 216, 3) := by decide +kernel
theorem dX11_lostDrawn_16 : decode cX11_lostDrawn 16 = .ok (.iload_n 1, 1) := by decide +kernel
theorem dX11_lostDrawn_17 : decode cX11_lostDrawn 17 = .ok (.i2l, 1) := by decide +kernel
theorem dX11_lostDrawn_18 : decode cX11_lostDrawn 18 = .ok (.lmul, 1) := by decide +kernel
theorem dX11_lostDrawn_19 : decode cX11_lostDrawn 19 = .ok (.ldc2_w 218, 3) := by decide +kernel
theorem dX11_lostDrawn_22 : decode cX11_lostDrawn 22 = .ok (.iload_n 3, 1) := by decide +kernel
theorem dX11_lostDrawn_23 : decode cX11_lostDrawn 23 = .ok (.i2l, 1) := by decide +kernel
theorem dX11_lostDrawn_24 : decode cX11_lostDrawn 24 = .ok (.lmul, 1) := by decide +kernel
theorem dX11_lostDrawn_25 : decode cX11_lostDrawn 25 = .ok (.ladd, 1) := by decide +kernel
theorem dX11_lostDrawn_26 : decode cX11_lostDrawn 26 = .ok (.lconst 1, 1) := by decide +kernel
theorem dX11_lostDrawn_27 : decode cX11_lostDrawn 27 = .ok (.ladd, 1) := by decide +kernel
theorem dX11_lostDrawn_28 : decode cX11_lostDrawn 28 = .ok (.lstore 4, 2) := by decide +kernel
theorem dX11_lostDrawn_30 : decode cX11_lostDrawn 30 = .ok (.aload_n 0, 1) := by decide +kernel
theorem dX11_lostDrawn_31 : decode cX11_lostDrawn 31 = .ok (.getfield 57, 3) := by decide +kernel
theorem dX11_lostDrawn_34 : decode cX11_lostDrawn 34 = .ok (.iload_n 3, 1) := by decide +kernel
theorem dX11_lostDrawn_35 : decode cX11_lostDrawn 35 = .ok (.iload_n 3, 1) := by decide +kernel
theorem dX11_lostDrawn_36 : decode cX11_lostDrawn 36 = .ok (.aload_n 0, 1) := by decide +kernel
theorem dX11_lostDrawn_37 : decode cX11_lostDrawn 37 = .ok (.getfield 13, 3) := by decide +kernel
theorem dX11_lostDrawn_40 : decode cX11_lostDrawn 40 = .ok (.iconst 0, 1) := by decide +kernel
theorem dX11_lostDrawn_41 : decode cX11_lostDrawn 41 = .ok (.iaload, 1) := by decide +kernel
theorem dX11_lostDrawn_42 : decode cX11_lostDrawn 42 = .ok (.if_icmp .ge 20, 3) := by decide +kernel
theorem dX11_lostDrawn_45 : decode cX11_lostDrawn 45 = .ok (.lload 4, 2) := by decide +kernel
theorem dX11_lostDrawn_47 : decode cX11_lostDrawn 47 = .ok (.lload 4, 2) := by decide +kernel
theorem dX11_lostDrawn_49 : decode cX11_lostDrawn 49 = .ok (.lmul, 1) := by decide +kernel
theorem dX11_lostDrawn_50 : decode cX11_lostDrawn 50 = .ok (.ldc2_w 220, 3) := by decide +kernel
theorem dX11_lostDrawn_53 : decode cX11_lostDrawn 53 = .ok (.lrem, 1) := by decide +kernel
theorem dX11_lostDrawn_54 : decode cX11_lostDrawn 54 = .ok (.ldc2_w 222, 3) := by decide +kernel
theorem dX11_lostDrawn_57 : decode cX11_lostDrawn 57 = .ok (.lrem, 1) := by decide +kernel
theorem dX11_lostDrawn_58 : decode cX11_lostDrawn 58 = .ok (.l2i, 1) := by decide +kernel
theorem dX11_lostDrawn_59 : decode cX11_lostDrawn 59 = .ok (.goto 4, 3) := by decide +kernel
theorem dX11_lostDrawn_62 : decode cX11_lostDrawn 62 = .ok (.iconst 0, 1) := by decide +kernel
theorem dX11_lostDrawn_63 : decode cX11_lostDrawn 63 = .ok (.iastore, 1) := by decide +kernel
theorem dX11_lostDrawn_64 : decode cX11_lostDrawn 64 = .ok (.aload_n 0, 1) := by decide +kernel
theorem dX11_lostDrawn_65 : decode cX11_lostDrawn 65 = .ok (.dup, 1) := by decide +kernel
theorem dX11_lostDrawn_66 : decode cX11_lostDrawn 66 = .ok (.getfield 213, 3) := by decide +kernel
theorem dX11_lostDrawn_69 : decode cX11_lostDrawn 69 = .ok (.aload_n 0, 1) := by decide +kernel
theorem dX11_lostDrawn_70 : decode cX11_lostDrawn 70 = .ok (.getfield 57, 3) := by decide +kernel
theorem dX11_lostDrawn_73 : decode cX11_lostDrawn 73 = .ok (.iload_n 3, 1) := by decide +kernel
theorem dX11_lostDrawn_74 : decode cX11_lostDrawn 74 = .ok (.iaload, 1) := by decide +kernel
theorem dX11_lostDrawn_75 : decode cX11_lostDrawn 75 = .ok (.iadd, 1) := by decide +kernel
theorem dX11_lostDrawn_76 : decode cX11_lostDrawn 76 = .ok (.putfield 213, 3) := by decide +kernel
theorem dX11_lostDrawn_79 : decode cX11_lostDrawn 79 = .ok (.iinc 3 1, 3) := by decide +kernel
theorem dX11_lostDrawn_82 : decode cX11_lostDrawn 82 = .ok (.goto (-75), 3) := by decide +kernel
theorem dX11_lostDrawn_85 : decode cX11_lostDrawn 85 = .ok (.aload_n 0, 1) := by decide +kernel
theorem dX11_lostDrawn_86 : decode cX11_lostDrawn 86 = .ok (.aload_n 0, 1) := by decide +kernel
theorem dX11_lostDrawn_87 : decode cX11_lostDrawn 87 = .ok (.getfield 23, 3) := by decide +kernel
theorem dX11_lostDrawn_90 : decode cX11_lostDrawn 90 = .ok (.iconst 1, 1) := by decide +kernel
theorem dX11_lostDrawn_91 : decode cX11_lostDrawn 91 = .ok (.iaload, 1) := by decide +kernel
theorem dX11_lostDrawn_92 : decode cX11_lostDrawn 92 = .ok (.aload_n 0, 1) := by decide +kernel
theorem dX11_lostDrawn_93 : decode cX11_lostDrawn 93 = .ok (.getfield 136, 3) := by decide +kernel
theorem dX11_lostDrawn_96 : decode cX11_lostDrawn 96 = .ok (.iload_n 2, 1) := by decide +kernel
theorem dX11_lostDrawn_97 : decode cX11_lostDrawn 97 = .ok (.invokevirtual 166, 3) := by decide +kernel
theorem dX11_lostDrawn_100 : decode cX11_lostDrawn 100 = .ok (.ireturn, 1) := by decide +kernel
theorem dX11_isSeed_0 : decode cX11_isSeed 0 = .ok (.iload_n 0, 1) := by decide +kernel
theorem dX11_isSeed_1 : decode cX11_isSeed 1 = .ok (.i2l, 1) := by decide +kernel
theorem dX11_isSeed_2 : decode cX11_isSeed 2 = .ok (.lconst 0, 1) := by decide +kernel
theorem dX11_isSeed_3 : decode cX11_isSeed 3 = .ok (.ldc2_w 224, 3) := by decide +kernel
theorem dX11_isSeed_6 : decode cX11_isSeed 6 = .ok (.invokestatic 86, 3) := by decide +kernel
theorem dX11_isSeed_9 : decode cX11_isSeed 9 = .ok (.ireturn, 1) := by decide +kernel
theorem dX11_drawn_0 : decode cX11_drawn 0 = .ok (.iload_n 1, 1) := by decide +kernel
theorem dX11_drawn_1 : decode cX11_drawn 1 = .ok (.invokestatic 226, 3) := by decide +kernel
theorem dX11_drawn_4 : decode cX11_drawn 4 = .ok (.ifCond .eq 19, 3) := by decide +kernel
theorem dX11_drawn_7 : decode cX11_drawn 7 = .ok (.iload_n 2, 1) := by decide +kernel
theorem dX11_drawn_8 : decode cX11_drawn 8 = .ok (.invokestatic 163, 3) := by decide +kernel
theorem dX11_drawn_11 : decode cX11_drawn 11 = .ok (.ifCond .eq 12, 3) := by decide +kernel
theorem dX11_drawn_14 : decode cX11_drawn 14 = .ok (.aload_n 0, 1) := by decide +kernel
theorem dX11_drawn_15 : decode cX11_drawn 15 = .ok (.iload_n 1, 1) := by decide +kernel
theorem dX11_drawn_16 : decode cX11_drawn 16 = .ok (.iload_n 2, 1) := by decide +kernel
theorem dX11_drawn_17 : decode cX11_drawn 17 = .ok (.invokevirtual 229, 3) := by decide +kernel
theorem dX11_drawn_20 : decode cX11_drawn 20 = .ok (.goto 4, 3) := by decide +kernel
theorem dX11_drawn_23 : decode cX11_drawn 23 = .ok (.iconst (-1), 1) := by decide +kernel
theorem dX11_drawn_24 : decode cX11_drawn 24 = .ok (.ireturn, 1) := by decide +kernel
theorem dX11_ten_0 : decode cX11_ten 0 = .ok (.iload_n 1, 1) := by decide +kernel
theorem dX11_ten_1 : decode cX11_ten 1 = .ok (.invokestatic 226, 3) := by decide +kernel
theorem dX11_ten_4 : decode cX11_ten 4 = .ok (.ifCond .eq 10, 3) := by decide +kernel
theorem dX11_ten_7 : decode cX11_ten 7 = .ok (.iload_n 2, 1) := by decide +kernel
theorem dX11_ten_8 : decode cX11_ten 8 = .ok (.invokestatic 163, 3) := by decide +kernel
theorem dX11_ten_11 : decode cX11_ten 11 = .ok (.ifCond .ne 5, 3) := by decide +kernel
theorem dX11_ten_14 : decode cX11_ten 14 = .ok (.iconst (-1), 1) := by decide +kernel
theorem dX11_ten_15 : decode cX11_ten 15 = .ok (.ireturn, 1) := by decide +kernel
theorem dX11_ten_16 : decode cX11_ten 16 = .ok (.iconst 0, 1) := by decide +kernel
theorem dX11_ten_17 : decode cX11_ten 17 = .ok (.istore_n 3, 1) := by decide +kernel
theorem dX11_ten_18 : decode cX11_ten 18 = .ok (.iconst 0, 1) := by decide +kernel
theorem dX11_ten_19 : decode cX11_ten 19 = .ok (.istore 4, 2) := by decide +kernel
theorem dX11_ten_21 : decode cX11_ten 21 = .ok (.iload 4, 2) := by decide +kernel
theorem dX11_ten_23 : decode cX11_ten 23 = .ok (.bipush 10, 2) := by decide +kernel
theorem dX11_ten_25 : decode cX11_ten 25 = .ok (.if_icmp .ge 39, 3) := by decide +kernel
theorem dX11_ten_28 : decode cX11_ten 28 = .ok (.iload_n 3, 1) := by decide +kernel
theorem dX11_ten_29 : decode cX11_ten 29 = .ok (.iconst 2, 1) := by decide +kernel
theorem dX11_ten_30 : decode cX11_ten 30 = .ok (.aload_n 0, 1) := by decide +kernel
theorem dX11_ten_31 : decode cX11_ten 31 = .ok (.iload_n 1, 1) := by decide +kernel
theorem dX11_ten_32 : decode cX11_ten 32 = .ok (.iload 4, 2) := by decide +kernel
theorem dX11_ten_34 : decode cX11_ten 34 = .ok (.iadd, 1) := by decide +kernel
theorem dX11_ten_35 : decode cX11_ten 35 = .ok (.sipush 10000, 3) := by decide +kernel
theorem dX11_ten_38 : decode cX11_ten 38 = .ok (.irem, 1) := by decide +kernel
theorem dX11_ten_39 : decode cX11_ten 39 = .ok (.iload_n 2, 1) := by decide +kernel
theorem dX11_ten_40 : decode cX11_ten 40 = .ok (.invokevirtual 229, 3) := by decide +kernel
theorem dX11_ten_43 : decode cX11_ten 43 = .ok (.imul, 1) := by decide +kernel
theorem dX11_ten_44 : decode cX11_ten 44 = .ok (.aload_n 0, 1) := by decide +kernel
theorem dX11_ten_45 : decode cX11_ten 45 = .ok (.getfield 213, 3) := by decide +kernel
theorem dX11_ten_48 : decode cX11_ten 48 = .ok (.if_icmp .le 7, 3) := by decide +kernel
theorem dX11_ten_51 : decode cX11_ten 51 = .ok (.iconst 1, 1) := by decide +kernel
theorem dX11_ten_52 : decode cX11_ten 52 = .ok (.goto 4, 3) := by decide +kernel
theorem dX11_ten_55 : decode cX11_ten 55 = .ok (.iconst 0, 1) := by decide +kernel
theorem dX11_ten_56 : decode cX11_ten 56 = .ok (.iadd, 1) := by decide +kernel
theorem dX11_ten_57 : decode cX11_ten 57 = .ok (.istore_n 3, 1) := by decide +kernel
theorem dX11_ten_58 : decode cX11_ten 58 = .ok (.iinc 4 1, 3) := by decide +kernel
theorem dX11_ten_61 : decode cX11_ten 61 = .ok (.goto (-40), 3) := by decide +kernel
theorem dX11_ten_64 : decode cX11_ten 64 = .ok (.iload_n 3, 1) := by decide +kernel
theorem dX11_ten_65 : decode cX11_ten 65 = .ok (.ireturn, 1) := by decide +kernel
theorem dX11_keep_0 : decode cX11_keep 0 = .ok (.aload_n 0, 1) := by decide +kernel
theorem dX11_keep_1 : decode cX11_keep 1 = .ok (.getfield 139, 3) := by decide +kernel
theorem dX11_keep_4 : decode cX11_keep 4 = .ok (.iconst 2, 1) := by decide +kernel
theorem dX11_keep_5 : decode cX11_keep 5 = .ok (.if_icmp .ne 6, 3) := by decide +kernel
theorem dX11_keep_8 : decode cX11_keep 8 = .ok (.bipush (-3), 2) := by decide +kernel
theorem dX11_keep_10 : decode cX11_keep 10 = .ok (.ireturn, 1) := by decide +kernel
theorem dX11_keep_11 : decode cX11_keep 11 = .ok (.iconst 0, 1) := by decide +kernel
theorem dX11_keep_12 : decode cX11_keep 12 = .ok (.istore_n 1, 1) := by decide +kernel
theorem dX11_keep_13 : decode cX11_keep 13 = .ok (.iload_n 1, 1) := by decide +kernel
theorem dX11_keep_14 : decode cX11_keep 14 = .ok (.bipush 8, 2) := by decide +kernel
theorem dX11_keep_16 : decode cX11_keep 16 = .ok (.if_icmp .ge 29, 3) := by decide +kernel
theorem dX11_keep_19 : decode cX11_keep 19 = .ok (.aload_n 0, 1) := by decide +kernel
theorem dX11_keep_20 : decode cX11_keep 20 = .ok (.getfield 51, 3) := by decide +kernel
theorem dX11_keep_23 : decode cX11_keep 23 = .ok (.bipush 8, 2) := by decide +kernel
theorem dX11_keep_25 : decode cX11_keep 25 = .ok (.aload_n 0, 1) := by decide +kernel
theorem dX11_keep_26 : decode cX11_keep 26 = .ok (.getfield 139, 3) := by decide +kernel
theorem dX11_keep_29 : decode cX11_keep 29 = .ok (.imul, 1) := by decide +kernel
theorem dX11_keep_30 : decode cX11_keep 30 = .ok (.iload_n 1, 1) := by decide +kernel
theorem dX11_keep_31 : decode cX11_keep 31 = .ok (.iadd, 1) := by decide +kernel
theorem dX11_keep_32 : decode cX11_keep 32 = .ok (.aload_n 0, 1) := by decide +kernel
theorem dX11_keep_33 : decode cX11_keep 33 = .ok (.getfield 48, 3) := by decide +kernel
theorem dX11_keep_36 : decode cX11_keep 36 = .ok (.iload_n 1, 1) := by decide +kernel
theorem dX11_keep_37 : decode cX11_keep 37 = .ok (.iaload, 1) := by decide +kernel
theorem dX11_keep_38 : decode cX11_keep 38 = .ok (.iastore, 1) := by decide +kernel
theorem dX11_keep_39 : decode cX11_keep 39 = .ok (.iinc 1 1, 3) := by decide +kernel
theorem dX11_keep_42 : decode cX11_keep 42 = .ok (.goto (-29), 3) := by decide +kernel
theorem dX11_keep_45 : decode cX11_keep 45 = .ok (.aload_n 0, 1) := by decide +kernel
theorem dX11_keep_46 : decode cX11_keep 46 = .ok (.getfield 54, 3) := by decide +kernel
theorem dX11_keep_49 : decode cX11_keep 49 = .ok (.aload_n 0, 1) := by decide +kernel
theorem dX11_keep_50 : decode cX11_keep 50 = .ok (.getfield 139, 3) := by decide +kernel
theorem dX11_keep_53 : decode cX11_keep 53 = .ok (.aload_n 0, 1) := by decide +kernel
theorem dX11_keep_54 : decode cX11_keep 54 = .ok (.getfield 136, 3) := by decide +kernel
theorem dX11_keep_57 : decode cX11_keep 57 = .ok (.iastore, 1) := by decide +kernel
theorem dX11_keep_58 : decode cX11_keep 58 = .ok (.aload_n 0, 1) := by decide +kernel
theorem dX11_keep_59 : decode cX11_keep 59 = .ok (.dup, 1) := by decide +kernel
theorem dX11_keep_60 : decode cX11_keep 60 = .ok (.getfield 139, 3) := by decide +kernel
theorem dX11_keep_63 : decode cX11_keep 63 = .ok (.iconst 1, 1) := by decide +kernel
theorem dX11_keep_64 : decode cX11_keep 64 = .ok (.iadd, 1) := by decide +kernel
theorem dX11_keep_65 : decode cX11_keep 65 = .ok (.putfield 139, 3) := by decide +kernel
theorem dX11_keep_68 : decode cX11_keep 68 = .ok (.aload_n 0, 1) := by decide +kernel
theorem dX11_keep_69 : decode cX11_keep 69 = .ok (.getfield 139, 3) := by decide +kernel
theorem dX11_keep_72 : decode cX11_keep 72 = .ok (.ireturn, 1) := by decide +kernel
theorem dX11_back_0 : decode cX11_back 0 = .ok (.aload_n 0, 1) := by decide +kernel
theorem dX11_back_1 : decode cX11_back 1 = .ok (.getfield 139, 3) := by decide +kernel
theorem dX11_back_4 : decode cX11_back 4 = .ok (.ifCond .ne 6, 3) := by decide +kernel
theorem dX11_back_7 : decode cX11_back 7 = .ok (.bipush (-2), 2) := by decide +kernel
theorem dX11_back_9 : decode cX11_back 9 = .ok (.ireturn, 1) := by decide +kernel
theorem dX11_back_10 : decode cX11_back 10 = .ok (.aload_n 0, 1) := by decide +kernel
theorem dX11_back_11 : decode cX11_back 11 = .ok (.dup, 1) := by decide +kernel
theorem dX11_back_12 : decode cX11_back 12 = .ok (.getfield 139, 3) := by decide +kernel
theorem dX11_back_15 : decode cX11_back 15 = .ok (.iconst 1, 1) := by decide +kernel
theorem dX11_back_16 : decode cX11_back 16 = .ok (.isub, 1) := by decide +kernel
theorem dX11_back_17 : decode cX11_back 17 = .ok (.putfield 139, 3) := by decide +kernel
theorem dX11_back_20 : decode cX11_back 20 = .ok (.iconst 0, 1) := by decide +kernel
theorem dX11_back_21 : decode cX11_back 21 = .ok (.istore_n 1, 1) := by decide +kernel
theorem dX11_back_22 : decode cX11_back 22 = .ok (.iload_n 1, 1) := by decide +kernel
theorem dX11_back_23 : decode cX11_back 23 = .ok (.bipush 8, 2) := by decide +kernel
theorem dX11_back_25 : decode cX11_back 25 = .ok (.if_icmp .ge 29, 3) := by decide +kernel
theorem dX11_back_28 : decode cX11_back 28 = .ok (.aload_n 0, 1) := by decide +kernel
theorem dX11_back_29 : decode cX11_back 29 = .ok (.getfield 48, 3) := by decide +kernel
theorem dX11_back_32 : decode cX11_back 32 = .ok (.iload_n 1, 1) := by decide +kernel
theorem dX11_back_33 : decode cX11_back 33 = .ok (.aload_n 0, 1) := by decide +kernel
theorem dX11_back_34 : decode cX11_back 34 = .ok (.getfield 51, 3) := by decide +kernel
theorem dX11_back_37 : decode cX11_back 37 = .ok (.bipush 8, 2) := by decide +kernel
theorem dX11_back_39 : decode cX11_back 39 = .ok (.aload_n 0, 1) := by decide +kernel
theorem dX11_back_40 : decode cX11_back 40 = .ok (.getfield 139, 3) := by decide +kernel
theorem dX11_back_43 : decode cX11_back 43 = .ok (.imul, 1) := by decide +kernel
theorem dX11_back_44 : decode cX11_back 44 = .ok (.iload_n 1, 1) := by decide +kernel
theorem dX11_back_45 : decode cX11_back 45 = .ok (.iadd, 1) := by decide +kernel
theorem dX11_back_46 : decode cX11_back 46 = .ok (.iaload, 1) := by decide +kernel
theorem dX11_back_47 : decode cX11_back 47 = .ok (.iastore, 1) := by decide +kernel
theorem dX11_back_48 : decode cX11_back 48 = .ok (.iinc 1 1, 3) := by decide +kernel
theorem dX11_back_51 : decode cX11_back 51 = .ok (.goto (-29), 3) := by decide +kernel
theorem dX11_back_54 : decode cX11_back 54 = .ok (.aload_n 0, 1) := by decide +kernel
theorem dX11_back_55 : decode cX11_back 55 = .ok (.aload_n 0, 1) := by decide +kernel
theorem dX11_back_56 : decode cX11_back 56 = .ok (.getfield 54, 3) := by decide +kernel
theorem dX11_back_59 : decode cX11_back 59 = .ok (.aload_n 0, 1) := by decide +kernel
theorem dX11_back_60 : decode cX11_back 60 = .ok (.getfield 139, 3) := by decide +kernel
theorem dX11_back_63 : decode cX11_back 63 = .ok (.iaload, 1) := by decide +kernel
theorem dX11_back_64 : decode cX11_back 64 = .ok (.putfield 136, 3) := by decide +kernel
theorem dX11_back_67 : decode cX11_back 67 = .ok (.aload_n 0, 1) := by decide +kernel
theorem dX11_back_68 : decode cX11_back 68 = .ok (.getfield 139, 3) := by decide +kernel
theorem dX11_back_71 : decode cX11_back 71 = .ok (.ireturn, 1) := by decide +kernel
theorem dX11_count_0 : decode cX11_count 0 = .ok (.iconst 0, 1) := by decide +kernel
theorem dX11_count_1 : decode cX11_count 1 = .ok (.istore_n 2, 1) := by decide +kernel
theorem dX11_count_2 : decode cX11_count 2 = .ok (.iconst 0, 1) := by decide +kernel
theorem dX11_count_3 : decode cX11_count 3 = .ok (.istore_n 3, 1) := by decide +kernel
theorem dX11_count_4 : decode cX11_count 4 = .ok (.iload_n 3, 1) := by decide +kernel
theorem dX11_count_5 : decode cX11_count 5 = .ok (.aload_n 0, 1) := by decide +kernel
theorem dX11_count_6 : decode cX11_count 6 = .ok (.getfield 13, 3) := by decide +kernel
theorem dX11_count_9 : decode cX11_count 9 = .ok (.iconst 0, 1) := by decide +kernel
theorem dX11_count_10 : decode cX11_count 10 = .ok (.iaload, 1) := by decide +kernel
theorem dX11_count_11 : decode cX11_count 11 = .ok (.if_icmp .ge 18, 3) := by decide +kernel
theorem dX11_count_14 : decode cX11_count 14 = .ok (.iload_n 2, 1) := by decide +kernel
theorem dX11_count_15 : decode cX11_count 15 = .ok (.aload_n 0, 1) := by decide +kernel
theorem dX11_count_16 : decode cX11_count 16 = .ok (.getfield 48, 3) := by decide +kernel
theorem dX11_count_19 : decode cX11_count 19 = .ok (.iload_n 3, 1) := by decide +kernel
theorem dX11_count_20 : decode cX11_count 20 = .ok (.iaload, 1) := by decide +kernel
theorem dX11_count_21 : decode cX11_count 21 = .ok (.iadd, 1) := by decide +kernel
theorem dX11_count_22 : decode cX11_count 22 = .ok (.istore_n 2, 1) := by decide +kernel
theorem dX11_count_23 : decode cX11_count 23 = .ok (.iinc 3 1, 3) := by decide +kernel
theorem dX11_count_26 : decode cX11_count 26 = .ok (.goto (-22), 3) := by decide +kernel
theorem dX11_count_29 : decode cX11_count 29 = .ok (.iload_n 1, 1) := by decide +kernel
theorem dX11_count_30 : decode cX11_count 30 = .ok (.tableswitch 89 0 7 #[46, 53, 58, 65, 72, 77, 79, 84], 46) := by decide +kernel
theorem dX11_count_76 : decode cX11_count 76 = .ok (.aload_n 0, 1) := by decide +kernel
theorem dX11_count_77 : decode cX11_count 77 = .ok (.getfield 13, 3) := by decide +kernel
theorem dX11_count_80 : decode cX11_count 80 = .ok (.iconst 0, 1) := by decide +kernel
theorem dX11_count_81 : decode cX11_count 81 = .ok (.iaload, 1) := by decide +kernel
theorem dX11_count_82 : decode cX11_count 82 = .ok (.ireturn, 1) := by decide +kernel
theorem dX11_count_83 : decode cX11_count 83 = .ok (.aload_n 0, 1) := by decide +kernel
theorem dX11_count_84 : decode cX11_count 84 = .ok (.getfield 123, 3) := by decide +kernel
theorem dX11_count_87 : decode cX11_count 87 = .ok (.ireturn, 1) := by decide +kernel
theorem dX11_count_88 : decode cX11_count 88 = .ok (.aload_n 0, 1) := by decide +kernel
theorem dX11_count_89 : decode cX11_count 89 = .ok (.getfield 26, 3) := by decide +kernel
theorem dX11_count_92 : decode cX11_count 92 = .ok (.iconst 0, 1) := by decide +kernel
theorem dX11_count_93 : decode cX11_count 93 = .ok (.iaload, 1) := by decide +kernel
theorem dX11_count_94 : decode cX11_count 94 = .ok (.ireturn, 1) := by decide +kernel
theorem dX11_count_95 : decode cX11_count 95 = .ok (.aload_n 0, 1) := by decide +kernel
theorem dX11_count_96 : decode cX11_count 96 = .ok (.getfield 32, 3) := by decide +kernel
theorem dX11_count_99 : decode cX11_count 99 = .ok (.iconst 0, 1) := by decide +kernel
theorem dX11_count_100 : decode cX11_count 100 = .ok (.iaload, 1) := by decide +kernel
theorem dX11_count_101 : decode cX11_count 101 = .ok (.ireturn, 1) := by decide +kernel
theorem dX11_count_102 : decode cX11_count 102 = .ok (.aload_n 0, 1) := by decide +kernel
theorem dX11_count_103 : decode cX11_count 103 = .ok (.getfield 136, 3) := by decide +kernel
theorem dX11_count_106 : decode cX11_count 106 = .ok (.ireturn, 1) := by decide +kernel
theorem dX11_count_107 : decode cX11_count 107 = .ok (.iload_n 2, 1) := by decide +kernel
theorem dX11_count_108 : decode cX11_count 108 = .ok (.ireturn, 1) := by decide +kernel
theorem dX11_count_109 : decode cX11_count 109 = .ok (.aload_n 0, 1) := by decide +kernel
theorem dX11_count_110 : decode cX11_count 110 = .ok (.getfield 90, 3) := by decide +kernel
theorem dX11_count_113 : decode cX11_count 113 = .ok (.ireturn, 1) := by decide +kernel
theorem dX11_count_114 : decode cX11_count 114 = .ok (.aload_n 0, 1) := by decide +kernel
theorem dX11_count_115 : decode cX11_count 115 = .ok (.getfield 139, 3) := by decide +kernel
theorem dX11_count_118 : decode cX11_count 118 = .ok (.ireturn, 1) := by decide +kernel
theorem dX11_count_119 : decode cX11_count 119 = .ok (.iconst (-1), 1) := by decide +kernel
theorem dX11_count_120 : decode cX11_count 120 = .ok (.ireturn, 1) := by decide +kernel
end
section
/-- the words that stay as the machine warms -/
def okw (w : Cond) : Bool := match w with
  | .fieldLinkNest .. => true
  | .methodLinkNest .. => true
  | w => goodWord w
def tb2 : List Cond := lw_tbl.filter okw
theorem mem2 {w : Cond} (i : Nat) (h : lw_tbl[i]? = some w) (h2 : okw w = true) : w ∈ tb2 := List.mem_filter.mpr ⟨List.mem_of_getElem? h, h2⟩
theorem tb2_warm {args a' : Array Value} {s U : State} (h : ∀ w ∈ tb2, w.before args s = true) (hW : s.WarmedH U.vm) : ∀ w ∈ tb2, w.before a' U = true := by
  intro w hw
  have h1 := h w hw
  have h2 := (List.mem_filter.mp hw).2
  by_cases hn : goodWord w = true
  · exact word_at hW (good_of_word hn) h1
  · cases w <;> first | (exact absurd h2 hn) | (exact va_Nw.use rfl (va_Nw.warmF hW (va_Nw.of rfl h1))) | (exact va_Nw.use rfl (va_Nw.warmM hW (va_Nw.of rfl h1)))
/-! THE ABSTRACT MACHINE: values, cells, heaps, the judgement V -/
abbrev AV : Type := Int ⊕ (Int ⊕ Nat)
abbrev aI (x : Int) : AV := Sum.inl x
abbrev aL (x : Int) : AV := Sum.inr (Sum.inl x)
abbrev aR (k : Nat) : AV := Sum.inr (Sum.inr k)
/-- a world's numbers: cell, slot or index -/
abbrev HP : Type := Nat → Int → Int
/-- a cell's kind: (0, class, its fields: a number or a cell), (1 int, 2 byte, 3 boolean array, length, []), (4, length, the rows) -/
abbrev KD : Type := Nat × Nat × List (Option Nat)
abbrev LSt : Type := List (Option AV)
abbrev MI : Type := MethodName × ByteArray × Nat × Option FieldType
abbrev KT : Type := LSt → List AV → HP → Prop
abbrev QT : Type := Option AV → HP → Prop
def cvv (σ : Nat → Nat) (v : AV) : Value := match v with
  | .inl x => .int (Int32.ofInt x)
  | .inr (.inl x) => .long (Int64.ofInt x)
  | .inr (.inr k) => .ref (σ k)
def ofv (σ : Nat → Nat) (f : Int → Int) (i : Nat) (o : Option Nat) : Value := match o with
  | none => .int (Int32.ofInt (f i))
  | some q => .ref (σ q)
def cEl (γ : Nat → ClassId) (σ : Nat → Nat) (f : Int → Int) (q : KD) : va_E := match q.1 with
  | 0 => .inr (q.2.1, q.2.2.mapIdx (ofv σ f))
  | 4 => .inl (γ 4, q.2.1, .inr (.inr (.inr (.inr (fun i => (q.2.2.getD i none).map σ)))))
  | t => .inl (γ t, q.2.1, .inl (fun i => Int32.ofInt (f i)))
def wdl (γ : Nat → ClassId) (σ : Nat → Nat) (h : HP) (K : List KD) : va_W := K.mapIdx (fun k q => (σ k, cEl γ σ (h k) q))
def tyl (γ : Nat → ClassId) : List (ClassId × FieldType) := [(γ 1, .int), (γ 2, .byte), (γ 3, .boolean), (γ 4, .array .int)]
def hset (h : HP) (k : Nat) (i v : Int) : HP := fun a b => if a = k ∧ b = i then v else h a b
theorem hset_s {h : HP} {k : Nat} {i v : Int} : hset h k i v k i = v := by simp [hset]
theorem hset_n {h : HP} {k a : Nat} {i v : Int} (ha : a ≠ k) : hset h k i v a = h a := by funext b; simp [hset, ha]
theorem hset_m {h : HP} {k : Nat} {i v b : Int} (hb : b ≠ i) : hset h k i v k b = h k b := by simp [hset, hb]
theorem wdl_at {γ : Nat → ClassId} {σ : Nat → Nat} {h : HP} {K : List KD} {k : Nat} {q : KD} (hk : K[k]? = some q) : (wdl γ σ h K)[k]? = some (σ k, cEl γ σ (h k) q) := by
  simp [wdl, List.getElem?_mapIdx, hk]
theorem wdl_len {γ : Nat → ClassId} {σ : Nat → Nat} {h : HP} {K : List KD} : (wdl γ σ h K).length = K.length := by simp [wdl]
theorem cEl_arr {γ : Nat → ClassId} {σ : Nat → Nat} {f : Int → Int} {t n : Nat} {l : List (Option Nat)} (h0 : t ≠ 0) (h4 : t ≠ 4) : cEl γ σ f (t, n, l) = .inl (γ t, n, .inl (fun i => Int32.ofInt (f i))) := by
  unfold cEl
  split
  · rename_i h; exact absurd h h0
  · rename_i h; exact absurd h h4
  · rfl
theorem wdl_setA {γ : Nat → ClassId} {σ : Nat → Nat} {h : HP} {K : List KD} {k t n : Nat} {l : List (Option Nat)} (hk : K[k]? = some (t, n, l)) (h0 : t ≠ 0) (h4 : t ≠ 4) (j : Nat) (v : Int) :
    (wdl γ σ h K).set k (σ k, .inl (γ t, n, .inl (upd (fun i => Int32.ofInt (h k i)) j (Int32.ofInt v)))) = wdl γ σ (hset h k j v) K := by
  apply List.ext_getElem?
  intro i
  by_cases hi : i = k
  · subst hi
    rw [List.getElem?_set_self (by rw [wdl_len]; exact (List.getElem?_eq_some_iff.mp hk).1), wdl_at hk, cEl_arr h0 h4]
    congr 6
    funext x
    by_cases hx : x = j
    · subst hx; simp [upd, hset]
    · have : ¬ (x : Int) = (j : Int) := fun q => hx (by omega)
      simp [upd, hset, hx, this]
  · rw [List.getElem?_set_ne (Ne.symm hi)]
    simp only [wdl, List.getElem?_mapIdx, hset_n hi]
/-- a whole row is put in the place of another -/
def hrow (h : HP) (k : Nat) (f : Int → Int) : HP := fun a => if a = k then f else h a
theorem hrow_s {h : HP} {k : Nat} {f : Int → Int} : hrow h k f k = f := by simp [hrow]
theorem hrow_n {h : HP} {k a : Nat} {f : Int → Int} (ha : a ≠ k) : hrow h k f a = h a := by simp [hrow, ha]
theorem wdl_setR {γ : Nat → ClassId} {σ : Nat → Nat} {h : HP} {K : List KD} {k t n : Nat} {l : List (Option Nat)} (hk : K[k]? = some (t, n, l)) (h0 : t ≠ 0) (h4 : t ≠ 4) (f : Int → Int) (g : Nat → Int32) (hg : ∀ i : Nat, g i = Int32.ofInt (f i)) :
    (wdl γ σ h K).set k (σ k, .inl (γ t, n, .inl g)) = wdl γ σ (hrow h k f) K := by
  have eg : g = fun (i : Nat) => Int32.ofInt (f i) := funext hg
  subst eg
  apply List.ext_getElem?
  intro i
  by_cases hi : i = k
  · subst hi
    rw [List.getElem?_set_self (by rw [wdl_len]; exact (List.getElem?_eq_some_iff.mp hk).1), wdl_at hk, cEl_arr h0 h4, hrow_s]
  · rw [List.getElem?_set_ne (Ne.symm hi)]
    simp only [wdl, List.getElem?_mapIdx, hrow_n hi]
theorem wdl_setF {γ : Nat → ClassId} {σ : Nat → Nat} {h : HP} {K : List KD} {k ci j : Nat} {l : List (Option Nat)} (hk : K[k]? = some (0, ci, l)) (hj : l[j]? = some none) (v : Int) :
    (wdl γ σ h K).set k (σ k, .inr (ci, (l.mapIdx (ofv σ (h k))).set j (.int (Int32.ofInt v)))) = wdl γ σ (hset h k j v) K := by
  apply List.ext_getElem?
  intro i
  by_cases hi : i = k
  · subst hi
    rw [List.getElem?_set_self (by rw [wdl_len]; exact (List.getElem?_eq_some_iff.mp hk).1), wdl_at hk]
    show some (σ i, Sum.inr (ci, _)) = some (σ i, Sum.inr (ci, _))
    congr 4
    apply List.ext_getElem?
    intro x
    by_cases hx : x = j
    · subst hx
      rw [List.getElem?_set_self (by simp; exact (List.getElem?_eq_some_iff.mp hj).1), List.getElem?_mapIdx, hj]
      simp [ofv, hset]
    · rw [List.getElem?_set_ne (Ne.symm hx), List.getElem?_mapIdx, List.getElem?_mapIdx]
      cases hl : l[x]? with
      | none => rfl
      | some o =>
        have : ¬ (x : Int) = (j : Int) := fun q => hx (by omega)
        cases o <;> simp [ofv, hset, this]
  · rw [List.getElem?_set_ne (Ne.symm hi)]
    simp only [wdl, List.getElem?_mapIdx, hset_n hi]
theorem wdl_D {γ : Nat → ClassId} {σ : Nat → Nat} {h h' : HP} {K : List KD} {A : Nat → Prop} (hD : va_D A (wdl γ σ h K)) : va_D A (wdl γ σ h' K) := by
  have key : ∀ (k : Nat) (q : Nat × va_E), (wdl γ σ h' K)[k]? = some q → ∃ q', (wdl γ σ h K)[k]? = some q' ∧ q'.1 = q.1 := by
    intro k q hk
    simp only [wdl, List.getElem?_mapIdx] at hk ⊢
    cases hK : K[k]? with
    | none => rw [hK] at hk; cases hk
    | some z =>
      rw [hK] at hk
      have := Option.some.inj hk
      subst this
      exact ⟨_, rfl, rfl⟩
  refine ⟨fun i j x y hi hj hxy => ?_, fun k q hk => ?_⟩
  · obtain ⟨x0, h1, h2⟩ := key i x hi
    obtain ⟨y0, h3, h4⟩ := key j y hj
    exact hD.1 i j x0 y0 h1 h3 (h2.trans (hxy.trans h4.symm))
  · obtain ⟨q0, h1, h2⟩ := key k q hk
    rw [← h2]
    exact hD.2 k q0 h1
/-! locals -/
def islong (o : Option AV) : Bool := match o with
  | some (.inr (.inl _)) => true
  | _ => false
def lkill (ls : LSt) (i : Nat) : LSt := match i with
  | 0 => ls
  | j + 1 => bif islong (ls.getD j none) then ls.set j none else ls
def lst1 (ls : LSt) (i : Nat) (v : AV) : LSt := (lkill ls i).set i (some v)
def lst2 (ls : LSt) (i : Nat) (v : AV) : LSt := ((lkill ls i).set i (some v)).set (i + 1) none
def lpl (σ : Nat → Nat) : Nat → LSt → List (Nat × Value)
  | _, [] => []
  | i, none :: r => lpl σ (i + 1) r
  | i, some v :: r => (i, cvv σ v) :: lpl σ (i + 1) r
theorem lpl_mem (σ : Nat → Nat) : ∀ (ls : LSt) (b : Nat) (q : Nat × Value), q ∈ lpl σ b ls ↔ ∃ (i : Nat) (v : AV), ls[i]? = some (some v) ∧ q = (b + i, cvv σ v)
  | [], b, q => by simp [lpl]
  | none :: r, b, q => by
    rw [lpl, lpl_mem σ r (b + 1) q]
    constructor
    · rintro ⟨i, v, h1, h2⟩
      exact ⟨i + 1, v, by simpa using h1, by rw [h2]; congr 1; omega⟩
    · rintro ⟨i, v, h1, h2⟩
      cases i with
      | zero => simp at h1
      | succ i => exact ⟨i, v, by simpa using h1, by rw [h2]; congr 1; omega⟩
  | some w :: r, b, q => by
    rw [lpl, List.mem_cons, lpl_mem σ r (b + 1) q]
    constructor
    · rintro (h | ⟨i, v, h1, h2⟩)
      · exact ⟨0, w, rfl, by rw [h]; rfl⟩
      · exact ⟨i + 1, v, by simpa using h1, by rw [h2]; congr 1; omega⟩
    · rintro ⟨i, v, h1, h2⟩
      cases i with
      | zero => simp at h1; subst h1; exact Or.inl (by rw [h2]; rfl)
      | succ i => exact Or.inr ⟨i, v, by simpa using h1, by rw [h2]; congr 1; omega⟩
def lhas (σ : Nat → Nat) (lsa : Array Slot) (nL : Nat) (ls : LSt) : Prop := lv_has lsa nL (lpl σ 0 ls)
theorem lhas_at {σ : Nat → Nat} {lsa : Array Slot} {nL : Nat} {ls : LSt} (h : lhas σ lsa nL ls) {i : Nat} {v : AV} (hi : ls.getD i none = some v) : lsa[i]? = some (.val (cvv σ v)) := by
  have h2 := h.2.2 (i, cvv σ v) ((lpl_mem σ ls 0 _).mpr ⟨i, v, ?_, by simp⟩)
  · exact h2
  · rw [List.getD_eq_getElem?_getD] at hi
    cases hl : ls[i]? with
    | none => rw [hl] at hi; simp at hi
    | some o => rw [hl] at hi; simp at hi; rw [hi]
theorem lhas_mem {σ : Nat → Nat} {ls : LSt} {i : Nat} {w : Value} : (i, w) ∈ lpl σ 0 ls ↔ ∃ v, ls[i]? = some (some v) ∧ w = cvv σ v := by
  rw [lpl_mem]
  constructor
  · rintro ⟨j, v, h1, h2⟩
    simp at h2
    obtain ⟨rfl, rfl⟩ := h2
    exact ⟨v, h1, rfl⟩
  · rintro ⟨v, h1, rfl⟩
    exact ⟨i, v, h1, by simp⟩
theorem cvv_cat {σ : Nat → Nat} {v : AV} : ((cvv σ v).category == 2) = islong (some v) := by
  obtain x | x | x := v <;> rfl
theorem lkill_at {ls : LSt} {i j : Nat} {v : AV} (h : (lkill ls i)[j]? = some (some v)) : ls[j]? = some (some v) ∧ ¬ (j + 1 = i ∧ islong (some v) = true) := by
  unfold lkill at h
  cases i with
  | zero => exact ⟨h, fun q => by omega⟩
  | succ i =>
    simp only at h
    cases hb : islong (ls.getD i none) with
    | true =>
      rw [hb, cond_true] at h
      by_cases hj : j = i
      · subst hj
        by_cases hl : j < ls.length
        · rw [List.getElem?_set_self hl] at h; cases h
        · rw [List.getElem?_eq_none (by simp; omega)] at h; cases h
      · rw [List.getElem?_set_ne (Ne.symm hj)] at h
        exact ⟨h, fun q => hj (by omega)⟩
    | false =>
      rw [hb, cond_false] at h
      refine ⟨h, fun q => ?_⟩
      have : j = i := by omega
      subst this
      rw [List.getD_eq_getElem?_getD, h] at hb
      simp only [Option.getD_some] at hb
      rw [hb] at q
      exact absurd q.2 (by decide)
theorem lhas_st1 {σ : Nat → Nat} {lsa : Array Slot} {nL : Nat} {ls : LSt} {i : Nat} {v : AV} (h : lv_has lsa nL ((i, cvv σ v) :: (lpl σ 0 ls).filter (fun q => !(q.1 == i) && !(q.1 + 1 == i && q.2.category == 2)))) : lhas σ lsa nL (lst1 ls i v) := by
  refine ⟨h.1, h.2.1, fun q hq => h.2.2 q ?_⟩
  obtain ⟨j, w⟩ := q
  obtain ⟨u, h1, rfl⟩ := lhas_mem.mp hq
  by_cases hj : j = i
  · subst hj
    unfold lst1 at h1
    by_cases hl : j < (lkill ls j).length
    · rw [List.getElem?_set_self hl] at h1
      cases h1
      exact List.mem_cons_self
    · rw [List.getElem?_eq_none (by simp; omega)] at h1; cases h1
  · unfold lst1 at h1
    rw [List.getElem?_set_ne (Ne.symm hj)] at h1
    obtain ⟨h2, h3⟩ := lkill_at h1
    refine List.mem_cons_of_mem _ (List.mem_filter.mpr ⟨lhas_mem.mpr ⟨u, h2, rfl⟩, ?_⟩)
    simp only [cvv_cat, Bool.and_eq_true, Bool.not_eq_true', beq_eq_false_iff_ne, ne_eq, Bool.and_eq_false_iff]
    refine ⟨hj, ?_⟩
    by_cases hq1 : j + 1 = i
    · right
      cases hb : islong (some u) with
      | true => exact absurd ⟨hq1, hb⟩ h3
      | false => rfl
    · exact Or.inl hq1
theorem lhas_st2 {σ : Nat → Nat} {lsa : Array Slot} {nL : Nat} {ls : LSt} {i : Nat} {v : AV} (h : lv_has lsa nL ((i, cvv σ v) :: (lpl σ 0 ls).filter (fun q => !(q.1 == i) && (!(q.1 == i + 1) && !(q.1 + 1 == i && q.2.category == 2))))) : lhas σ lsa nL (lst2 ls i v) := by
  refine ⟨h.1, h.2.1, fun q hq => h.2.2 q ?_⟩
  obtain ⟨j, w⟩ := q
  obtain ⟨u, h1, rfl⟩ := lhas_mem.mp hq
  unfold lst2 at h1
  by_cases hj1 : j = i + 1
  · subst hj1
    by_cases hl : i + 1 < ((lkill ls i).set i (some v)).length
    · rw [List.getElem?_set_self hl] at h1; cases h1
    · rw [List.getElem?_eq_none (by simp at hl ⊢; omega)] at h1; cases h1
  rw [List.getElem?_set_ne (Ne.symm hj1)] at h1
  by_cases hj : j = i
  · subst hj
    by_cases hl : j < (lkill ls j).length
    · rw [List.getElem?_set_self hl] at h1
      cases h1
      exact List.mem_cons_self
    · rw [List.getElem?_eq_none (by simp; omega)] at h1; cases h1
  · rw [List.getElem?_set_ne (Ne.symm hj)] at h1
    obtain ⟨h2, h3⟩ := lkill_at h1
    refine List.mem_cons_of_mem _ (List.mem_filter.mpr ⟨lhas_mem.mpr ⟨u, h2, rfl⟩, ?_⟩)
    simp only [cvv_cat, Bool.and_eq_true, Bool.not_eq_true', beq_eq_false_iff_ne, ne_eq, Bool.and_eq_false_iff]
    refine ⟨hj, hj1, ?_⟩
    by_cases hq1 : j + 1 = i
    · right
      cases hb : islong (some u) with
      | true => exact absurd ⟨hq1, hb⟩ h3
      | false => rfl
    · exact Or.inl hq1
/-! the judgement -/
def Qv (D : va_G) (γ : Nat → ClassId) (σ : Nat → Nat) (K : List KD) (A : Nat → Prop) (Q : QT) : Array Value → State → Outcome → State → Prop := fun _ st oc t =>
  (∃ (r : Option AV) (h : HP), oc = .returned (r.map (cvv σ)) ∧ Q r h ∧ va_P D vwCl (wdl γ σ h K) t.heap) ∧ va_F A st t
def Cn (K : List KD) (d : Nat) (M : MI) (h : HP) (p : Program) (R : Room) (s : State) (m : MethodId) (args : Array Value) (meth : Method) (c : Code) (H : Heap) (locs : List Loc) (cells slots : Nat) (D : va_G) (γ : Nat → ClassId) (σ : Nat → Nat) (A : Nat → Prop) : Prop :=
  p.tables.exec = Jvm.exec ∧ c.code = M.2.1 ∧ c.maxLocals = M.2.2.1 ∧ meth.sig.returnType = M.2.2.2 ∧ meth.locks = false ∧ s.vm.findClass M.1.cls = some m.cls ∧ (∀ w ∈ tb2, w.before args s = true) ∧
  (d ≤ R.frames ∧ 64 * d ≤ R.locals ∧ cells ≤ R.cells ∧ slots ≤ R.slots) ∧ va_K D vwCl (tyl γ) s ∧ va_P D vwCl (wdl γ σ h K) H ∧ va_D A (wdl γ σ h K) ∧ va_S A s.heap H locs
def V (K : List KD) (d : Nat) (M : MI) (pc : Nat) (ls : LSt) (st : List AV) (h : HP) (Q : QT) : Prop :=
  ∀ (p : Program) (l : Launch) (e : Env) (R : Room) (s : State) (m : MethodId) (args : Array Value) (below : List Frame) (meth : Method) (c : Code) (H : Heap) (locs : List Loc) (cells slots : Nat) (D : va_G) (γ : Nat → ClassId) (σ : Nat → Nat) (A : Nat → Prop) (lsa : Array Slot),
    Cn K d M h p R s m args meth c H locs cells slots D γ σ A → lhas σ lsa M.2.2.1 ls →
    W p l e R s m args below meth c H locs cells slots (MQ below (Qv D γ σ K A Q) args s cells slots A) (F0 m pc lsa (st.map (cvv σ)))
def lay : Nat → List AV → LSt
  | n, [] => List.replicate n none
  | n, .inr (.inl x) :: r => some (.inr (.inl x)) :: none :: lay (n - 2) r
  | n, .inl x :: r => some (.inl x) :: lay (n - 1) r
  | n, .inr (.inr x) :: r => some (.inr (.inr x)) :: lay (n - 1) r
/-- a method's contract: from its entry -/
def Ct (K : List KD) (d : Nat) (M : MI) (as : List AV) (h : HP) (Q : QT) : Prop := V K d M 0 (lay M.2.2.1 as) [] h Q
/-- an int is answered; nothing is -/
abbrev rI (P : Int → HP → Prop) : QT := fun r h => ∃ v, r = some (aI v) ∧ P v h
abbrev rV (P : HP → Prop) : QT := fun r h => r = none ∧ P h
theorem V_mono {K : List KD} {d : Nat} {M : MI} {pc : Nat} {ls : LSt} {st : List AV} {h : HP} {Q Q' : QT} (hV : V K d M pc ls st h Q) (hQ : ∀ r h, Q r h → Q' r h) : V K d M pc ls st h Q' := by
  intro p l e R s m args below meth c H locs cells slots D γ σ A lsa C hl T hT X
  obtain ⟨t, a, o, b1, b2, ⟨⟨r, h', c1, c2, c3⟩, c4⟩, b4⟩ := hV p l e R s m args below meth c H locs cells slots D γ σ A lsa C hl T hT X
  exact ⟨t, a, o, b1, b2, ⟨⟨r, h', c1, hQ _ _ c2, c3⟩, c4⟩, b4⟩
theorem V_deep {K : List KD} {d d' : Nat} {M : MI} {pc : Nat} {ls : LSt} {st : List AV} {h : HP} {Q : QT} (hV : V K d M pc ls st h Q) (hd : d ≤ d') : V K d' M pc ls st h Q := by
  intro p l e R s m args below meth c H locs cells slots D γ σ A lsa C hl
  obtain ⟨c1, c2, c3, c4, c5, c6, c7, ⟨e1, e2, e3, e4⟩, c9⟩ := C
  exact hV p l e R s m args below meth c H locs cells slots D γ σ A lsa ⟨c1, c2, c3, c4, c5, c6, c7, ⟨by omega, by omega, e3, e4⟩, c9⟩ hl
theorem Ct_I {K : List KD} {d d' : Nat} {M : MI} {as : List AV} {h : HP} {P P' : Int → HP → Prop} (hC : Ct K d M as h (rI P)) (hd : d ≤ d') (hP : ∀ v h', P v h' → P' v h') : Ct K d' M as h (rI P') :=
  V_deep (V_mono hC (fun _ _ ⟨v, e, q⟩ => ⟨v, e, hP v _ q⟩)) hd
theorem Ct_V {K : List KD} {d d' : Nat} {M : MI} {as : List AV} {h : HP} {P P' : HP → Prop} (hC : Ct K d M as h (rV P)) (hd : d ≤ d') (hP : ∀ h', P h' → P' h') : Ct K d' M as h (rV P') :=
  V_deep (V_mono hC (fun _ _ ⟨e, q⟩ => ⟨e, hP _ q⟩)) hd
theorem lay_sub (σ : Nat → Nat) : ∀ (as : List AV) (b n : Nat) (q : Nat × Value), q ∈ lpl σ b (lay n as) → q ∈ lv_args b (as.map (cvv σ))
  | [], b, n, q, h => by
    obtain ⟨i, v, h1, -⟩ := (lpl_mem σ _ b q).mp h
    rw [lay, List.getElem?_replicate] at h1
    split at h1 <;> cases h1
  | .inr (.inl x) :: r, b, n, q, h => by
    rw [lay, lpl, List.mem_cons, lpl] at h
    show q ∈ (b, cvv σ (.inr (.inl x))) :: lv_args (b + 2) (r.map (cvv σ))
    rcases h with h | h
    · rw [h]; exact List.mem_cons_self
    · exact List.mem_cons_of_mem _ (lay_sub σ r (b + 1 + 1) (n - 2) q h)
  | .inl x :: r, b, n, q, h => by
    rw [lay, lpl, List.mem_cons] at h
    show q ∈ (b, cvv σ (.inl x)) :: lv_args (b + 1) (r.map (cvv σ))
    rcases h with h | h
    · rw [h]; exact List.mem_cons_self
    · exact List.mem_cons_of_mem _ (lay_sub σ r (b + 1) (n - 1) q h)
  | .inr (.inr x) :: r, b, n, q, h => by
    rw [lay, lpl, List.mem_cons] at h
    show q ∈ (b, cvv σ (.inr (.inr x))) :: lv_args (b + 1) (r.map (cvv σ))
    rcases h with h | h
    · rw [h]; exact List.mem_cons_self
    · exact List.mem_cons_of_mem _ (lay_sub σ r (b + 1) (n - 1) q h)
def slen : List AV → Nat
  | [] => 0
  | .inr (.inl _) :: r => slen r + 2
  | .inl _ :: r => slen r + 1
  | .inr (.inr _) :: r => slen r + 1
theorem slen_sl (σ : Nat → Nat) : ∀ as : List AV, (lg_sl (as.map (cvv σ))).length = slen as
  | [] => rfl
  | .inr (.inl x) :: r => by
    have e : lg_sl (((.inr (.inl x) : AV) :: r).map (cvv σ)) = [Slot.val (.long (Int64.ofInt x)), Slot.second] ++ lg_sl (r.map (cvv σ)) := by simp [lg_sl, cvv, Value.category]
    rw [e, List.length_append, slen_sl σ r]
    show 2 + slen r = slen r + 2
    omega
  | .inl x :: r => by
    have e : lg_sl (((.inl x : AV) :: r).map (cvv σ)) = [Slot.val (.int (Int32.ofInt x))] ++ lg_sl (r.map (cvv σ)) := by simp [lg_sl, cvv, Value.category]
    rw [e, List.length_append, slen_sl σ r]
    show 1 + slen r = slen r + 1
    omega
  | .inr (.inr x) :: r => by
    have e : lg_sl (((.inr (.inr x) : AV) :: r).map (cvv σ)) = [Slot.val (.ref (σ x))] ++ lg_sl (r.map (cvv σ)) := by simp [lg_sl, cvv, Value.category]
    rw [e, List.length_append, slen_sl σ r]
    show 1 + slen r = slen r + 1
    omega
theorem slen_cat (σ : Nat → Nat) : ∀ as : List AV, ((as.map (cvv σ)).map fun v => v.category).sum = slen as
  | [] => rfl
  | .inr (.inl x) :: r => by
    have := slen_cat σ r
    simp [cvv, Value.category, slen] at this ⊢
    omega
  | .inl x :: r => by
    have := slen_cat σ r
    simp [cvv, Value.category, slen] at this ⊢
    omega
  | .inr (.inr x) :: r => by
    have := slen_cat σ r
    simp [cvv, Value.category, slen] at this ⊢
    omega
/-- what a callee's contract is to the kit -/
theorem met_of {K : List KD} {d : Nat} {M : MI} {as : List AV} {h : HP} {Q : QT} (hct : Ct K d M as h Q) (hM : plainName M.1.cls = true) (hlen : slen as ≤ M.2.2.1) (l : Launch) (D : va_G) (γ : Nat → ClassId) (σ : Nat → Nat) (A : Nat → Prop) :
    Met l M.1 (Cond.code M.1 M.2.1 M.2.2.1 M.2.2.2 :: tb2) ({ frames := d, cells := 0, slots := 0, locals := 64 * d }) (va_Pc (as.map (cvv σ)) (fun U => va_P D vwCl (wdl γ σ h K) U.heap ∧ va_K D vwCl (tyl γ) U ∧ va_D A (wdl γ σ h K))) (Qv D γ σ K A Q) 0 0 A := by
  refine Met.ofW (cc := M.2.1) (maxL := M.2.2.1) (ret := M.2.2.2) hM rfl ?_
  intro p e s m args below meth c s₁ B hml hv
  obtain ⟨rfl, hP, hK, hD⟩ := hv
  have hts := atoms_spec (ws := Cond.code M.1 M.2.1 M.2.2.1 M.2.2.2 :: tb2) B.pre
  have hl := lv_entry (as.map (cvv σ)) (n := M.2.2.1) (by rw [slen_sl]; exact hlen)
  rw [lg_entry_eq]
  refine hct p l e _ s m _ below meth c s.heap [] 0 0 D γ σ A _ ⟨B.exec, B.bytes, hml, B.returns, B.notSynchronized, findClass_of_methodNamed B.named, fun w hw => hts w (List.mem_cons_of_mem _ hw), ⟨Nat.le_refl _, Nat.le_refl _, Nat.zero_le _, Nat.zero_le _⟩, hK, hP, hD, va_S.rf⟩ ?_
  exact ⟨hl.1, hl.2.1, fun q hq => hl.2.2 q (lay_sub σ as 0 _ q hq)⟩
end
section
abbrev iR (x : Int) : Prop := -2147483648 ≤ x ∧ x ≤ 2147483647
abbrev lR (x : Int) : Prop := -9223372036854775808 ≤ x ∧ x ≤ 9223372036854775807
theorem oI_lt {x y : Int} (hx : iR x) (hy : iR y) : Int32.ofInt x < Int32.ofInt y ↔ x < y := Int32.ofInt_lt_iff_lt hx.1 hx.2 hy.1 hy.2
theorem oI_le {x y : Int} (hx : iR x) (hy : iR y) : Int32.ofInt x ≤ Int32.ofInt y ↔ x ≤ y := Int32.ofInt_le_iff_le hx.1 hx.2 hy.1 hy.2
theorem oI_toInt {x : Int} (hx : iR x) : (Int32.ofInt x).toInt = x := Int32.toInt_ofInt_of_le hx.1 (by have := hx.2; omega)
theorem oI_eq {x y : Int} (hx : iR x) (hy : iR y) : Int32.ofInt x = Int32.ofInt y ↔ x = y := ⟨fun h => by rw [← oI_toInt hx, h, oI_toInt hy], fun h => by rw [h]⟩
theorem oI_0 : (0 : Int32) = Int32.ofInt 0 := rfl
theorem iR_0 : iR 0 := by decide
theorem oL_toInt {x : Int} (hx : lR x) : (Int64.ofInt x).toInt = x := Int64.toInt_ofInt_of_le hx.1 (by have := hx.2; omega)
theorem oI_nat {x : Int} (h0 : 0 ≤ x) (hx : iR x) : (Int32.ofInt x).toNatClampNeg = x.toNat := by
  show (Int32.ofInt x).toInt.toNat = x.toNat
  rw [oI_toInt hx]
theorem oI_in {x : Int} {n : Nat} (h0 : 0 ≤ x) (h1 : x < n) (hn : n < 2147483648) : vp_in (Int32.ofInt x) n := by
  have hR : iR x := ⟨by omega, by omega⟩
  rw [vp_in_iff, oI_toInt hR]
  exact ⟨h0, h1⟩
theorem oI_div {x y : Int} (hx : 0 ≤ x) (hx' : iR x) (hy : 0 < y) (hy' : iR y) : Int32.ofInt x / Int32.ofInt y = Int32.ofInt (x / y) := by
  apply Int32.toInt_inj.mp
  have hq : 0 ≤ x / y := Int.ediv_nonneg hx (by omega)
  have hq2 : x / y ≤ x := Int.ediv_le_self _ hx
  rw [Int32.toInt_div_of_ne_right, oI_toInt hx', oI_toInt hy', oI_toInt ⟨by omega, by have := hx'.2; omega⟩, Int.tdiv_eq_ediv_of_nonneg hx]
  intro h
  have := congrArg Int32.toInt h
  rw [oI_toInt hy', show ((-1 : Int32)).toInt = -1 from rfl] at this
  omega
theorem oI_rem {x y : Int} (hx : 0 ≤ x) (hx' : iR x) (hy : 0 < y) (hy' : iR y) : Int32.ofInt x - Int32.ofInt x / Int32.ofInt y * Int32.ofInt y = Int32.ofInt (x % y) := by
  rw [oI_div hx hx' hy hy', ← Int32.ofInt_mul, ← Int32.ofInt_sub]
  congr 1
  have := Int.mul_ediv_add_emod x y
  rw [Int.mul_comm] at this
  omega
theorem oL_div {x y : Int} (hx : 0 ≤ x) (hx' : lR x) (hy : 0 < y) (hy' : lR y) : Int64.ofInt x / Int64.ofInt y = Int64.ofInt (x / y) := by
  apply Int64.toInt_inj.mp
  have hq : 0 ≤ x / y := Int.ediv_nonneg hx (by omega)
  have hq2 : x / y ≤ x := Int.ediv_le_self _ hx
  rw [Int64.toInt_div_of_ne_right, oL_toInt hx', oL_toInt hy', oL_toInt ⟨by omega, by have := hx'.2; omega⟩, Int.tdiv_eq_ediv_of_nonneg hx]
  intro h
  have := congrArg Int64.toInt h
  rw [oL_toInt hy', show ((-1 : Int64)).toInt = -1 from rfl] at this
  omega
theorem oL_rem {x y : Int} (hx : 0 ≤ x) (hx' : lR x) (hy : 0 < y) (hy' : lR y) : Int64.ofInt x - Int64.ofInt x / Int64.ofInt y * Int64.ofInt y = Int64.ofInt (x % y) := by
  rw [oL_div hx hx' hy hy', ← Int64.ofInt_mul, ← Int64.ofInt_sub]
  congr 1
  have := Int.mul_ediv_add_emod x y
  rw [Int.mul_comm] at this
  omega
def p_push (x : Int) (k : KT) : KT := fun ls st h => k ls (aI x :: st) h
theorem s_iconst {K : List KD} {d : Nat} {M : MI} {pc : Nat} {Q : QT} {k : KT} {n : Int} (hd : decode M.2.1 pc = .ok (.iconst n, 1)) (hk : ∀ ls st h, k ls st h → V K d M (pc + 1) ls st h Q) : ∀ ls st h, p_push n k ls st h → V K d M pc ls st h Q := by
  intro ls st h hh
  intro p l e R s m args below meth c H locs cells slots D γ σ A lsa C hl
  exact lv_iconst C.1 C.2.1 hd rfl (hk _ _ _ hh p l e R s m args below meth c H locs cells slots D γ σ A lsa C hl)
theorem s_bipush {K : List KD} {d : Nat} {M : MI} {pc : Nat} {Q : QT} {k : KT} {n : Int} (hd : decode M.2.1 pc = .ok (.bipush n, 2)) (hv : (Int8.ofInt n).toInt32 = Int32.ofInt n) (hk : ∀ ls st h, k ls st h → V K d M (pc + 2) ls st h Q) : ∀ ls st h, p_push n k ls st h → V K d M pc ls st h Q := by
  intro ls st h hh
  intro p l e R s m args below meth c H locs cells slots D γ σ A lsa C hl
  exact lv_bipush C.1 C.2.1 hd hv (hk _ _ _ hh p l e R s m args below meth c H locs cells slots D γ σ A lsa C hl)
theorem s_sipush {K : List KD} {d : Nat} {M : MI} {pc : Nat} {Q : QT} {k : KT} {n : Int} (hd : decode M.2.1 pc = .ok (.sipush n, 3)) (hv : (Int16.ofInt n).toInt32 = Int32.ofInt n) (hk : ∀ ls st h, k ls st h → V K d M (pc + 3) ls st h Q) : ∀ ls st h, p_push n k ls st h → V K d M pc ls st h Q := by
  intro ls st h hh
  intro p l e R s m args below meth c H locs cells slots D γ σ A lsa C hl
  exact lv_sipush C.1 C.2.1 hd hv (hk _ _ _ hh p l e R s m args below meth c H locs cells slots D γ σ A lsa C hl)
theorem s_ldc {K : List KD} {d : Nat} {M : MI} {pc : Nat} {Q : QT} {k : KT} {n : Int} {ix : Nat} (hw : Cond.constant M.1.cls ix (Int32.ofInt n) ∈ tb2) (hd : decode M.2.1 pc = .ok (.ldc ix, 2)) (hk : ∀ ls st h, k ls st h → V K d M (pc + 2) ls st h Q) : ∀ ls st h, p_push n k ls st h → V K d M pc ls st h Q := by
  intro ls st h hh
  intro p l e R s m args below meth c H locs cells slots D γ σ A lsa C hl
  exact lv_ldc C.1 C.2.1 C.2.2.2.2.2.1 (C.2.2.2.2.2.2.1 _ hw) hd (hk _ _ _ hh p l e R s m args below meth c H locs cells slots D γ σ A lsa C hl)
def p_lpush (x : Int) (k : KT) : KT := fun ls st h => k ls (aL x :: st) h
theorem s_lconst {K : List KD} {d : Nat} {M : MI} {pc : Nat} {Q : QT} {k : KT} {n : Fin 2} {x : Int} (hd : decode M.2.1 pc = .ok (.lconst n, 1)) (hv : Int64.ofNat (n : Nat) = Int64.ofInt x) (hk : ∀ ls st h, k ls st h → V K d M (pc + 1) ls st h Q) : ∀ ls st h, p_lpush x k ls st h → V K d M pc ls st h Q := by
  intro ls st h hh
  intro p l e R s m args below meth c H locs cells slots D γ σ A lsa C hl
  exact lv_lconst C.1 C.2.1 hd hv (hk _ _ _ hh p l e R s m args below meth c H locs cells slots D γ σ A lsa C hl)
theorem s_ldc2 {K : List KD} {d : Nat} {M : MI} {pc : Nat} {Q : QT} {k : KT} {n : Int} {ix : Nat} (hw : Cond.constantLong M.1.cls ix (Int64.ofInt n) ∈ tb2) (hd : decode M.2.1 pc = .ok (.ldc2_w ix, 3)) (hk : ∀ ls st h, k ls st h → V K d M (pc + 3) ls st h Q) : ∀ ls st h, p_lpush n k ls st h → V K d M pc ls st h Q := by
  intro ls st h hh
  intro p l e R s m args below meth c H locs cells slots D γ σ A lsa C hl
  exact lv_ldc2 C.1 C.2.1 C.2.2.2.2.2.1 (C.2.2.2.2.2.2.1 _ hw) hd (hk _ _ _ hh p l e R s m args below meth c H locs cells slots D γ σ A lsa C hl)
def p_iload (i : Nat) (k : KT) : KT := fun ls st h => match ls.getD i none with
  | some (.inl x) => k ls (aI x :: st) h
  | _ => False
theorem s_iload_n {K : List KD} {d : Nat} {M : MI} {pc : Nat} {Q : QT} {k : KT} {q : Fin 4} {i : Nat} (hd : decode M.2.1 pc = .ok (.iload_n q, 1)) (hi : (q : Nat) = i) (hk : ∀ ls st h, k ls st h → V K d M (pc + 1) ls st h Q) : ∀ ls st h, p_iload i k ls st h → V K d M pc ls st h Q := by
  intro ls st h hh
  unfold p_iload at hh
  split at hh
  · rename_i x hx
    intro p l e R s m args below meth c H locs cells slots D γ σ A lsa C hl
    exact lv_iload_n C.1 C.2.1 hd hi (lhas_at hl hx) (hk _ _ _ hh p l e R s m args below meth c H locs cells slots D γ σ A lsa C hl)
  · exact hh.elim
theorem s_iload {K : List KD} {d : Nat} {M : MI} {pc : Nat} {Q : QT} {k : KT} {i : Nat} (hd : decode M.2.1 pc = .ok (.iload i, 2)) (hk : ∀ ls st h, k ls st h → V K d M (pc + 2) ls st h Q) : ∀ ls st h, p_iload i k ls st h → V K d M pc ls st h Q := by
  intro ls st h hh
  unfold p_iload at hh
  split at hh
  · rename_i x hx
    intro p l e R s m args below meth c H locs cells slots D γ σ A lsa C hl
    exact lv_iload C.1 C.2.1 hd (lhas_at hl hx) (hk _ _ _ hh p l e R s m args below meth c H locs cells slots D γ σ A lsa C hl)
  · exact hh.elim
def p_lload (i : Nat) (k : KT) : KT := fun ls st h => match ls.getD i none with
  | some (.inr (.inl x)) => k ls (aL x :: st) h
  | _ => False
theorem s_lload_n {K : List KD} {d : Nat} {M : MI} {pc : Nat} {Q : QT} {k : KT} {q : Fin 4} {i : Nat} (hd : decode M.2.1 pc = .ok (.lload_n q, 1)) (hi : (q : Nat) = i) (hk : ∀ ls st h, k ls st h → V K d M (pc + 1) ls st h Q) : ∀ ls st h, p_lload i k ls st h → V K d M pc ls st h Q := by
  intro ls st h hh
  unfold p_lload at hh
  split at hh
  · rename_i x hx
    intro p l e R s m args below meth c H locs cells slots D γ σ A lsa C hl
    exact lv_lload_n C.1 C.2.1 hd hi (lhas_at hl hx) (hk _ _ _ hh p l e R s m args below meth c H locs cells slots D γ σ A lsa C hl)
  · exact hh.elim
theorem s_lload {K : List KD} {d : Nat} {M : MI} {pc : Nat} {Q : QT} {k : KT} {i : Nat} (hd : decode M.2.1 pc = .ok (.lload i, 2)) (hk : ∀ ls st h, k ls st h → V K d M (pc + 2) ls st h Q) : ∀ ls st h, p_lload i k ls st h → V K d M pc ls st h Q := by
  intro ls st h hh
  unfold p_lload at hh
  split at hh
  · rename_i x hx
    intro p l e R s m args below meth c H locs cells slots D γ σ A lsa C hl
    exact lv_lload C.1 C.2.1 hd (lhas_at hl hx) (hk _ _ _ hh p l e R s m args below meth c H locs cells slots D γ σ A lsa C hl)
  · exact hh.elim
def p_aload (i : Nat) (k : KT) : KT := fun ls st h => match ls.getD i none with
  | some (.inr (.inr x)) => k ls (aR x :: st) h
  | _ => False
theorem s_aload_n {K : List KD} {d : Nat} {M : MI} {pc : Nat} {Q : QT} {k : KT} {q : Fin 4} {i : Nat} (hd : decode M.2.1 pc = .ok (.aload_n q, 1)) (hi : (q : Nat) = i) (hk : ∀ ls st h, k ls st h → V K d M (pc + 1) ls st h Q) : ∀ ls st h, p_aload i k ls st h → V K d M pc ls st h Q := by
  intro ls st h hh
  unfold p_aload at hh
  split at hh
  · rename_i x hx
    intro p l e R s m args below meth c H locs cells slots D γ σ A lsa C hl
    exact lv_aload_n C.1 C.2.1 hd hi (lhas_at hl hx) (hk _ _ _ hh p l e R s m args below meth c H locs cells slots D γ σ A lsa C hl)
  · exact hh.elim
theorem s_aload {K : List KD} {d : Nat} {M : MI} {pc : Nat} {Q : QT} {k : KT} {i : Nat} (hd : decode M.2.1 pc = .ok (.aload i, 2)) (hk : ∀ ls st h, k ls st h → V K d M (pc + 2) ls st h Q) : ∀ ls st h, p_aload i k ls st h → V K d M pc ls st h Q := by
  intro ls st h hh
  unfold p_aload at hh
  split at hh
  · rename_i x hx
    intro p l e R s m args below meth c H locs cells slots D γ σ A lsa C hl
    exact lv_aload C.1 C.2.1 hd (lhas_at hl hx) (hk _ _ _ hh p l e R s m args below meth c H locs cells slots D γ σ A lsa C hl)
  · exact hh.elim
def p_istore (i : Nat) (k : KT) : KT := fun ls st h => match st with
  | .inl x :: st => k (lst1 ls i (aI x)) st h
  | _ => False
theorem s_istore_n {K : List KD} {d : Nat} {M : MI} {pc : Nat} {Q : QT} {k : KT} {q : Fin 4} {i : Nat} (hd : decode M.2.1 pc = .ok (.istore_n q, 1)) (hi : (q : Nat) = i) (hn : i < M.2.2.1) (hk : ∀ ls st h, k ls st h → V K d M (pc + 1) ls st h Q) : ∀ ls st h, p_istore i k ls st h → V K d M pc ls st h Q := by
  intro ls st h hh
  unfold p_istore at hh
  split at hh
  · rename_i x st
    intro p l e R s m args below meth c H locs cells slots D γ σ A lsa C hl
    exact lv_istore_n C.1 C.2.1 hd hi hl hn rfl (fun lsa2 hl2 => hk _ _ _ hh p l e R s m args below meth c H locs cells slots D γ σ A lsa2 C (lhas_st1 hl2))
  · exact hh.elim
theorem s_istore {K : List KD} {d : Nat} {M : MI} {pc : Nat} {Q : QT} {k : KT} {i : Nat} (hd : decode M.2.1 pc = .ok (.istore i, 2)) (hn : i < M.2.2.1) (hk : ∀ ls st h, k ls st h → V K d M (pc + 2) ls st h Q) : ∀ ls st h, p_istore i k ls st h → V K d M pc ls st h Q := by
  intro ls st h hh
  unfold p_istore at hh
  split at hh
  · rename_i x st
    intro p l e R s m args below meth c H locs cells slots D γ σ A lsa C hl
    exact lv_istore C.1 C.2.1 hd hl hn rfl (fun lsa2 hl2 => hk _ _ _ hh p l e R s m args below meth c H locs cells slots D γ σ A lsa2 C (lhas_st1 hl2))
  · exact hh.elim
def p_lstore (i : Nat) (k : KT) : KT := fun ls st h => match st with
  | .inr (.inl x) :: st => k (lst2 ls i (aL x)) st h
  | _ => False
theorem s_lstore_n {K : List KD} {d : Nat} {M : MI} {pc : Nat} {Q : QT} {k : KT} {q : Fin 4} {i : Nat} (hd : decode M.2.1 pc = .ok (.lstore_n q, 1)) (hi : (q : Nat) = i) (hn : i + 1 < M.2.2.1) (hk : ∀ ls st h, k ls st h → V K d M (pc + 1) ls st h Q) : ∀ ls st h, p_lstore i k ls st h → V K d M pc ls st h Q := by
  intro ls st h hh
  unfold p_lstore at hh
  split at hh
  · rename_i x st
    intro p l e R s m args below meth c H locs cells slots D γ σ A lsa C hl
    exact lv_lstore_n C.1 C.2.1 hd hi hl hn rfl (fun lsa2 hl2 => hk _ _ _ hh p l e R s m args below meth c H locs cells slots D γ σ A lsa2 C (lhas_st2 hl2))
  · exact hh.elim
theorem s_lstore {K : List KD} {d : Nat} {M : MI} {pc : Nat} {Q : QT} {k : KT} {i : Nat} (hd : decode M.2.1 pc = .ok (.lstore i, 2)) (hn : i + 1 < M.2.2.1) (hk : ∀ ls st h, k ls st h → V K d M (pc + 2) ls st h Q) : ∀ ls st h, p_lstore i k ls st h → V K d M pc ls st h Q := by
  intro ls st h hh
  unfold p_lstore at hh
  split at hh
  · rename_i x st
    intro p l e R s m args below meth c H locs cells slots D γ σ A lsa C hl
    exact lv_lstore C.1 C.2.1 hd hl hn rfl (fun lsa2 hl2 => hk _ _ _ hh p l e R s m args below meth c H locs cells slots D γ σ A lsa2 C (lhas_st2 hl2))
  · exact hh.elim
def p_astore (i : Nat) (k : KT) : KT := fun ls st h => match st with
  | .inr (.inr x) :: st => k (lst1 ls i (aR x)) st h
  | _ => False
theorem s_astore_n {K : List KD} {d : Nat} {M : MI} {pc : Nat} {Q : QT} {k : KT} {q : Fin 4} {i : Nat} (hd : decode M.2.1 pc = .ok (.astore_n q, 1)) (hi : (q : Nat) = i) (hn : i < M.2.2.1) (hk : ∀ ls st h, k ls st h → V K d M (pc + 1) ls st h Q) : ∀ ls st h, p_astore i k ls st h → V K d M pc ls st h Q := by
  intro ls st h hh
  unfold p_astore at hh
  split at hh
  · rename_i x st
    intro p l e R s m args below meth c H locs cells slots D γ σ A lsa C hl
    exact lv_astore_n C.1 C.2.1 hd hi hl hn rfl (fun lsa2 hl2 => hk _ _ _ hh p l e R s m args below meth c H locs cells slots D γ σ A lsa2 C (lhas_st1 hl2))
  · exact hh.elim
theorem s_astore {K : List KD} {d : Nat} {M : MI} {pc : Nat} {Q : QT} {k : KT} {i : Nat} (hd : decode M.2.1 pc = .ok (.astore i, 2)) (hn : i < M.2.2.1) (hk : ∀ ls st h, k ls st h → V K d M (pc + 2) ls st h Q) : ∀ ls st h, p_astore i k ls st h → V K d M pc ls st h Q := by
  intro ls st h hh
  unfold p_astore at hh
  split at hh
  · rename_i x st
    intro p l e R s m args below meth c H locs cells slots D γ σ A lsa C hl
    exact lv_astore C.1 C.2.1 hd hl hn rfl (fun lsa2 hl2 => hk _ _ _ hh p l e R s m args below meth c H locs cells slots D γ σ A lsa2 C (lhas_st1 hl2))
  · exact hh.elim
def p_iinc (i : Nat) (n : Int) (k : KT) : KT := fun ls st h => match ls.getD i none with
  | some (.inl x) => k (lst1 ls i (aI (x + n))) st h
  | _ => False
theorem s_iinc {K : List KD} {d : Nat} {M : MI} {pc : Nat} {Q : QT} {k : KT} {i : Nat} {n : Int} (hd : decode M.2.1 pc = .ok (.iinc i n, 3)) (hn : i < M.2.2.1) (hk : ∀ ls st h, k ls st h → V K d M (pc + 3) ls st h Q) : ∀ ls st h, p_iinc i n k ls st h → V K d M pc ls st h Q := by
  intro ls st h hh
  unfold p_iinc at hh
  split at hh
  · rename_i x hx
    intro p l e R s m args below meth c H locs cells slots D γ σ A lsa C hl
    have hm : (i, cvv σ (.inl x)) ∈ lpl σ 0 ls := lhas_mem.mpr ⟨_, by rw [List.getD_eq_getElem?_getD] at hx; cases hq : ls[i]? with | none => (rw [hq] at hx; cases hx) | some o => (rw [hq] at hx; simp at hx; rw [hx]), rfl⟩
    obtain ⟨j, hj⟩ := List.getElem?_of_mem hm
    exact lv_iinc C.1 C.2.1 hd hl hj (Int32.ofInt_add x n).symm hn rfl (fun lsa2 hl2 => hk _ _ _ hh p l e R s m args below meth c H locs cells slots D γ σ A lsa2 C (lhas_st1 (v := .inl (x + n)) hl2))
  · exact hh.elim
def p_iadd (k : KT) : KT := fun ls st h => match st with
  | .inl y :: .inl x :: st => k ls (aI (x + y) :: st) h
  | _ => False
theorem s_iadd {K : List KD} {d : Nat} {M : MI} {pc : Nat} {Q : QT} {k : KT} (hd : decode M.2.1 pc = .ok (.iadd, 1)) (hk : ∀ ls st h, k ls st h → V K d M (pc + 1) ls st h Q) : ∀ ls st h, p_iadd k ls st h → V K d M pc ls st h Q := by
  intro ls st h hh
  unfold p_iadd at hh
  split at hh
  · rename_i y x st
    intro p l e R s m args below meth c H locs cells slots D γ σ A lsa C hl
    refine lv_iadd C.1 C.2.1 hd  ?_
    have h9 := hk _ _ _ hh p l e R s m args below meth c H locs cells slots D γ σ A lsa C hl
    have e9 : Int32.ofInt x + Int32.ofInt y = Int32.ofInt (x + y) := (Int32.ofInt_add x y).symm
    rw [e9]
    exact h9
  · exact hh.elim
def p_isub (k : KT) : KT := fun ls st h => match st with
  | .inl y :: .inl x :: st => k ls (aI (x - y) :: st) h
  | _ => False
theorem s_isub {K : List KD} {d : Nat} {M : MI} {pc : Nat} {Q : QT} {k : KT} (hd : decode M.2.1 pc = .ok (.isub, 1)) (hk : ∀ ls st h, k ls st h → V K d M (pc + 1) ls st h Q) : ∀ ls st h, p_isub k ls st h → V K d M pc ls st h Q := by
  intro ls st h hh
  unfold p_isub at hh
  split at hh
  · rename_i y x st
    intro p l e R s m args below meth c H locs cells slots D γ σ A lsa C hl
    refine lv_isub C.1 C.2.1 hd  ?_
    have h9 := hk _ _ _ hh p l e R s m args below meth c H locs cells slots D γ σ A lsa C hl
    have e9 : Int32.ofInt x - Int32.ofInt y = Int32.ofInt (x - y) := (Int32.ofInt_sub x y).symm
    rw [e9]
    exact h9
  · exact hh.elim
def p_imul (k : KT) : KT := fun ls st h => match st with
  | .inl y :: .inl x :: st => k ls (aI (x * y) :: st) h
  | _ => False
theorem s_imul {K : List KD} {d : Nat} {M : MI} {pc : Nat} {Q : QT} {k : KT} (hd : decode M.2.1 pc = .ok (.imul, 1)) (hk : ∀ ls st h, k ls st h → V K d M (pc + 1) ls st h Q) : ∀ ls st h, p_imul k ls st h → V K d M pc ls st h Q := by
  intro ls st h hh
  unfold p_imul at hh
  split at hh
  · rename_i y x st
    intro p l e R s m args below meth c H locs cells slots D γ σ A lsa C hl
    refine lv_imul C.1 C.2.1 hd  ?_
    have h9 := hk _ _ _ hh p l e R s m args below meth c H locs cells slots D γ σ A lsa C hl
    have e9 : Int32.ofInt x * Int32.ofInt y = Int32.ofInt (x * y) := (Int32.ofInt_mul x y).symm
    rw [e9]
    exact h9
  · exact hh.elim
def p_ladd (k : KT) : KT := fun ls st h => match st with
  | .inr (.inl y) :: .inr (.inl x) :: st => k ls (aL (x + y) :: st) h
  | _ => False
theorem s_ladd {K : List KD} {d : Nat} {M : MI} {pc : Nat} {Q : QT} {k : KT} (hd : decode M.2.1 pc = .ok (.ladd, 1)) (hk : ∀ ls st h, k ls st h → V K d M (pc + 1) ls st h Q) : ∀ ls st h, p_ladd k ls st h → V K d M pc ls st h Q := by
  intro ls st h hh
  unfold p_ladd at hh
  split at hh
  · rename_i y x st
    intro p l e R s m args below meth c H locs cells slots D γ σ A lsa C hl
    refine lv_ladd C.1 C.2.1 hd  ?_
    have h9 := hk _ _ _ hh p l e R s m args below meth c H locs cells slots D γ σ A lsa C hl
    have e9 : Int64.ofInt x + Int64.ofInt y = Int64.ofInt (x + y) := (Int64.ofInt_add x y).symm
    rw [e9]
    exact h9
  · exact hh.elim
def p_lmul (k : KT) : KT := fun ls st h => match st with
  | .inr (.inl y) :: .inr (.inl x) :: st => k ls (aL (x * y) :: st) h
  | _ => False
theorem s_lmul {K : List KD} {d : Nat} {M : MI} {pc : Nat} {Q : QT} {k : KT} (hd : decode M.2.1 pc = .ok (.lmul, 1)) (hk : ∀ ls st h, k ls st h → V K d M (pc + 1) ls st h Q) : ∀ ls st h, p_lmul k ls st h → V K d M pc ls st h Q := by
  intro ls st h hh
  unfold p_lmul at hh
  split at hh
  · rename_i y x st
    intro p l e R s m args below meth c H locs cells slots D γ σ A lsa C hl
    refine lv_lmul C.1 C.2.1 hd  ?_
    have h9 := hk _ _ _ hh p l e R s m args below meth c H locs cells slots D γ σ A lsa C hl
    have e9 : Int64.ofInt x * Int64.ofInt y = Int64.ofInt (x * y) := (Int64.ofInt_mul x y).symm
    rw [e9]
    exact h9
  · exact hh.elim
def p_idiv (k : KT) : KT := fun ls st h => match st with
  | .inl y :: .inl x :: st => (0 ≤ x ∧ iR x ∧ 0 < y ∧ iR y) ∧ k ls (aI (x / y) :: st) h
  | _ => False
theorem s_idiv {K : List KD} {d : Nat} {M : MI} {pc : Nat} {Q : QT} {k : KT} (hd : decode M.2.1 pc = .ok (.idiv, 1)) (hk : ∀ ls st h, k ls st h → V K d M (pc + 1) ls st h Q) : ∀ ls st h, p_idiv k ls st h → V K d M pc ls st h Q := by
  intro ls st h hh
  unfold p_idiv at hh
  split at hh
  · rename_i y x st
    intro p l e R s m args below meth c H locs cells slots D γ σ A lsa C hl
    obtain ⟨hq, hh⟩ := hh
    refine lv_idiv C.1 C.2.1 hd (fun q => by have := (oI_eq hq.2.2.2 iR_0).mp (by rw [q]; rfl); have := hq.2.2.1; omega) ?_
    have h9 := hk _ _ _ hh p l e R s m args below meth c H locs cells slots D γ σ A lsa C hl
    have e9 : Int32.ofInt x / Int32.ofInt y = Int32.ofInt (x / y) := oI_div hq.1 hq.2.1 hq.2.2.1 hq.2.2.2
    rw [e9]
    exact h9
  · exact hh.elim
def p_irem (k : KT) : KT := fun ls st h => match st with
  | .inl y :: .inl x :: st => (0 ≤ x ∧ iR x ∧ 0 < y ∧ iR y) ∧ k ls (aI (x % y) :: st) h
  | _ => False
theorem s_irem {K : List KD} {d : Nat} {M : MI} {pc : Nat} {Q : QT} {k : KT} (hd : decode M.2.1 pc = .ok (.irem, 1)) (hk : ∀ ls st h, k ls st h → V K d M (pc + 1) ls st h Q) : ∀ ls st h, p_irem k ls st h → V K d M pc ls st h Q := by
  intro ls st h hh
  unfold p_irem at hh
  split at hh
  · rename_i y x st
    intro p l e R s m args below meth c H locs cells slots D γ σ A lsa C hl
    obtain ⟨hq, hh⟩ := hh
    refine lv_irem C.1 C.2.1 hd (fun q => by have := (oI_eq hq.2.2.2 iR_0).mp (by rw [q]; rfl); have := hq.2.2.1; omega) ?_
    have h9 := hk _ _ _ hh p l e R s m args below meth c H locs cells slots D γ σ A lsa C hl
    have e9 : Int32.ofInt x - Int32.ofInt x / Int32.ofInt y * Int32.ofInt y = Int32.ofInt (x % y) := oI_rem hq.1 hq.2.1 hq.2.2.1 hq.2.2.2
    rw [e9]
    exact h9
  · exact hh.elim
def p_lrem (k : KT) : KT := fun ls st h => match st with
  | .inr (.inl y) :: .inr (.inl x) :: st => (0 ≤ x ∧ lR x ∧ 0 < y ∧ lR y) ∧ k ls (aL (x % y) :: st) h
  | _ => False
theorem s_lrem {K : List KD} {d : Nat} {M : MI} {pc : Nat} {Q : QT} {k : KT} (hd : decode M.2.1 pc = .ok (.lrem, 1)) (hk : ∀ ls st h, k ls st h → V K d M (pc + 1) ls st h Q) : ∀ ls st h, p_lrem k ls st h → V K d M pc ls st h Q := by
  intro ls st h hh
  unfold p_lrem at hh
  split at hh
  · rename_i y x st
    intro p l e R s m args below meth c H locs cells slots D γ σ A lsa C hl
    obtain ⟨hq, hh⟩ := hh
    refine lv_lrem C.1 C.2.1 hd (fun q => by have h8 := congrArg Int64.toInt q; rw [oL_toInt hq.2.2.2, show ((0 : Int64)).toInt = 0 from rfl] at h8; have := hq.2.2.1; omega) ?_
    have h9 := hk _ _ _ hh p l e R s m args below meth c H locs cells slots D γ σ A lsa C hl
    have e9 : Int64.ofInt x - Int64.ofInt x / Int64.ofInt y * Int64.ofInt y = Int64.ofInt (x % y) := oL_rem hq.1 hq.2.1 hq.2.2.1 hq.2.2.2
    rw [e9]
    exact h9
  · exact hh.elim
def b_iand (x y : Int) : Int := (Int32.ofInt x &&& Int32.ofInt y).toInt
def p_iand (k : KT) : KT := fun ls st h => match st with
  | .inl y :: .inl x :: st => k ls (aI (b_iand x y) :: st) h
  | _ => False
theorem s_iand {K : List KD} {d : Nat} {M : MI} {pc : Nat} {Q : QT} {k : KT} (hd : decode M.2.1 pc = .ok (.iand, 1)) (hk : ∀ ls st h, k ls st h → V K d M (pc + 1) ls st h Q) : ∀ ls st h, p_iand k ls st h → V K d M pc ls st h Q := by
  intro ls st h hh
  unfold p_iand at hh
  split at hh
  · rename_i y x st
    intro p l e R s m args below meth c H locs cells slots D γ σ A lsa C hl
    refine lv_iand C.1 C.2.1 hd  ?_
    have h9 := hk _ _ _ hh p l e R s m args below meth c H locs cells slots D γ σ A lsa C hl
    have e9 : Int32.ofInt x &&& Int32.ofInt y = Int32.ofInt (b_iand x y) := (Int32.ofInt_toInt _).symm
    rw [e9]
    exact h9
  · exact hh.elim
def b_ior (x y : Int) : Int := (Int32.ofInt x ||| Int32.ofInt y).toInt
def p_ior (k : KT) : KT := fun ls st h => match st with
  | .inl y :: .inl x :: st => k ls (aI (b_ior x y) :: st) h
  | _ => False
theorem s_ior {K : List KD} {d : Nat} {M : MI} {pc : Nat} {Q : QT} {k : KT} (hd : decode M.2.1 pc = .ok (.ior, 1)) (hk : ∀ ls st h, k ls st h → V K d M (pc + 1) ls st h Q) : ∀ ls st h, p_ior k ls st h → V K d M pc ls st h Q := by
  intro ls st h hh
  unfold p_ior at hh
  split at hh
  · rename_i y x st
    intro p l e R s m args below meth c H locs cells slots D γ σ A lsa C hl
    refine lv_ior C.1 C.2.1 hd  ?_
    have h9 := hk _ _ _ hh p l e R s m args below meth c H locs cells slots D γ σ A lsa C hl
    have e9 : Int32.ofInt x ||| Int32.ofInt y = Int32.ofInt (b_ior x y) := (Int32.ofInt_toInt _).symm
    rw [e9]
    exact h9
  · exact hh.elim
def b_ixor (x y : Int) : Int := (Int32.ofInt x ^^^ Int32.ofInt y).toInt
def p_ixor (k : KT) : KT := fun ls st h => match st with
  | .inl y :: .inl x :: st => k ls (aI (b_ixor x y) :: st) h
  | _ => False
theorem s_ixor {K : List KD} {d : Nat} {M : MI} {pc : Nat} {Q : QT} {k : KT} (hd : decode M.2.1 pc = .ok (.ixor, 1)) (hk : ∀ ls st h, k ls st h → V K d M (pc + 1) ls st h Q) : ∀ ls st h, p_ixor k ls st h → V K d M pc ls st h Q := by
  intro ls st h hh
  unfold p_ixor at hh
  split at hh
  · rename_i y x st
    intro p l e R s m args below meth c H locs cells slots D γ σ A lsa C hl
    refine lv_ixor C.1 C.2.1 hd  ?_
    have h9 := hk _ _ _ hh p l e R s m args below meth c H locs cells slots D γ σ A lsa C hl
    have e9 : Int32.ofInt x ^^^ Int32.ofInt y = Int32.ofInt (b_ixor x y) := (Int32.ofInt_toInt _).symm
    rw [e9]
    exact h9
  · exact hh.elim
def b_ishl (x y : Int) : Int := (Int32.ofInt x <<< (Int32.ofInt y &&& 31)).toInt
def p_ishl (k : KT) : KT := fun ls st h => match st with
  | .inl y :: .inl x :: st => k ls (aI (b_ishl x y) :: st) h
  | _ => False
theorem s_ishl {K : List KD} {d : Nat} {M : MI} {pc : Nat} {Q : QT} {k : KT} (hd : decode M.2.1 pc = .ok (.ishl, 1)) (hk : ∀ ls st h, k ls st h → V K d M (pc + 1) ls st h Q) : ∀ ls st h, p_ishl k ls st h → V K d M pc ls st h Q := by
  intro ls st h hh
  unfold p_ishl at hh
  split at hh
  · rename_i y x st
    intro p l e R s m args below meth c H locs cells slots D γ σ A lsa C hl
    refine lv_ishl C.1 C.2.1 hd  ?_
    have h9 := hk _ _ _ hh p l e R s m args below meth c H locs cells slots D γ σ A lsa C hl
    have e9 : Int32.ofInt x <<< (Int32.ofInt y &&& 31) = Int32.ofInt (b_ishl x y) := (Int32.ofInt_toInt _).symm
    rw [e9]
    exact h9
  · exact hh.elim
def b_ishr (x y : Int) : Int := (Int32.ofInt x >>> (Int32.ofInt y &&& 31)).toInt
def p_ishr (k : KT) : KT := fun ls st h => match st with
  | .inl y :: .inl x :: st => k ls (aI (b_ishr x y) :: st) h
  | _ => False
theorem s_ishr {K : List KD} {d : Nat} {M : MI} {pc : Nat} {Q : QT} {k : KT} (hd : decode M.2.1 pc = .ok (.ishr, 1)) (hk : ∀ ls st h, k ls st h → V K d M (pc + 1) ls st h Q) : ∀ ls st h, p_ishr k ls st h → V K d M pc ls st h Q := by
  intro ls st h hh
  unfold p_ishr at hh
  split at hh
  · rename_i y x st
    intro p l e R s m args below meth c H locs cells slots D γ σ A lsa C hl
    refine lv_ishr C.1 C.2.1 hd  ?_
    have h9 := hk _ _ _ hh p l e R s m args below meth c H locs cells slots D γ σ A lsa C hl
    have e9 : Int32.ofInt x >>> (Int32.ofInt y &&& 31) = Int32.ofInt (b_ishr x y) := (Int32.ofInt_toInt _).symm
    rw [e9]
    exact h9
  · exact hh.elim
def p_ineg (k : KT) : KT := fun ls st h => match st with
  | .inl x :: st => k ls (aI (-x) :: st) h
  | _ => False
theorem s_ineg {K : List KD} {d : Nat} {M : MI} {pc : Nat} {Q : QT} {k : KT} (hd : decode M.2.1 pc = .ok (.ineg, 1)) (hk : ∀ ls st h, k ls st h → V K d M (pc + 1) ls st h Q) : ∀ ls st h, p_ineg k ls st h → V K d M pc ls st h Q := by
  intro ls st h hh
  unfold p_ineg at hh
  split at hh
  · rename_i x st
    intro p l e R s m args below meth c H locs cells slots D γ σ A lsa C hl
    refine lv_ineg C.1 C.2.1 hd ?_
    have h9 := hk _ _ _ hh p l e R s m args below meth c H locs cells slots D γ σ A lsa C hl
    rw [show -Int32.ofInt x = Int32.ofInt (-x) from (Int32.ofInt_neg x).symm]
    exact h9
  · exact hh.elim
def p_i2l (k : KT) : KT := fun ls st h => match st with
  | .inl x :: st => iR x ∧ k ls (aL x :: st) h
  | _ => False
theorem s_i2l {K : List KD} {d : Nat} {M : MI} {pc : Nat} {Q : QT} {k : KT} (hd : decode M.2.1 pc = .ok (.i2l, 1)) (hk : ∀ ls st h, k ls st h → V K d M (pc + 1) ls st h Q) : ∀ ls st h, p_i2l k ls st h → V K d M pc ls st h Q := by
  intro ls st h hh
  unfold p_i2l at hh
  split at hh
  · rename_i x st
    obtain ⟨hq, hh⟩ := hh
    intro p l e R s m args below meth c H locs cells slots D γ σ A lsa C hl
    exact lv_i2l C.1 C.2.1 hd (Int32.toInt64_ofInt hq.1 hq.2) (hk _ _ _ hh p l e R s m args below meth c H locs cells slots D γ σ A lsa C hl)
  · exact hh.elim
def p_l2i (k : KT) : KT := fun ls st h => match st with
  | .inr (.inl x) :: st => k ls (aI x :: st) h
  | _ => False
theorem s_l2i {K : List KD} {d : Nat} {M : MI} {pc : Nat} {Q : QT} {k : KT} (hd : decode M.2.1 pc = .ok (.l2i, 1)) (hk : ∀ ls st h, k ls st h → V K d M (pc + 1) ls st h Q) : ∀ ls st h, p_l2i k ls st h → V K d M pc ls st h Q := by
  intro ls st h hh
  unfold p_l2i at hh
  split at hh
  · rename_i x st
    intro p l e R s m args below meth c H locs cells slots D γ σ A lsa C hl
    exact lv_l2i C.1 C.2.1 hd Int64.toInt32_ofInt (hk _ _ _ hh p l e R s m args below meth c H locs cells slots D γ σ A lsa C hl)
  · exact hh.elim
def b_i2b (x : Int) : Int := x.bmod 256
theorem b_i2b_ok (x : Int) : (Int32.ofInt x).toInt8.toInt32 = Int32.ofInt (b_i2b x) := by
  apply Int32.toInt_inj.mp
  have h1 : -128 ≤ x.bmod 256 := by have := Int.le_bmod (x := x) (m := 256) (by decide); omega
  have h2 : x.bmod 256 < 128 := by have := Int.bmod_lt (x := x) (m := 256) (by decide); omega
  rw [Int8.toInt_toInt32, Int32.toInt_toInt8, Int32.toInt_ofInt, b_i2b, oI_toInt ⟨by omega, by omega⟩]
  rw [Int.bmod_bmod_of_dvd]
  decide
def p_i2b (k : KT) : KT := fun ls st h => match st with
  | .inl x :: st => k ls (aI (b_i2b x) :: st) h
  | _ => False
theorem s_i2b {K : List KD} {d : Nat} {M : MI} {pc : Nat} {Q : QT} {k : KT} (hd : decode M.2.1 pc = .ok (.i2b, 1)) (hk : ∀ ls st h, k ls st h → V K d M (pc + 1) ls st h Q) : ∀ ls st h, p_i2b k ls st h → V K d M pc ls st h Q := by
  intro ls st h hh
  unfold p_i2b at hh
  split at hh
  · rename_i x st
    intro p l e R s m args below meth c H locs cells slots D γ σ A lsa C hl
    exact lv_i2b C.1 C.2.1 hd (b_i2b_ok x) (hk _ _ _ hh p l e R s m args below meth c H locs cells slots D γ σ A lsa C hl)
  · exact hh.elim
def b_lushr (x y : Int) : Int := (((Int64.ofInt x).toUInt64 >>> ((Int32.ofInt y).toInt64.toUInt64 &&& Int64.toUInt64 63)).toInt64).toInt
def p_lushr (k : KT) : KT := fun ls st h => match st with
  | .inl y :: .inr (.inl x) :: st => k ls (aL (b_lushr x y) :: st) h
  | _ => False
theorem s_lushr {K : List KD} {d : Nat} {M : MI} {pc : Nat} {Q : QT} {k : KT} (hd : decode M.2.1 pc = .ok (.lushr, 1)) (hk : ∀ ls st h, k ls st h → V K d M (pc + 1) ls st h Q) : ∀ ls st h, p_lushr k ls st h → V K d M pc ls st h Q := by
  intro ls st h hh
  unfold p_lushr at hh
  split at hh
  · rename_i y x st
    intro p l e R s m args below meth c H locs cells slots D γ σ A lsa C hl
    exact lv_lushr C.1 C.2.1 hd (Int64.ofInt_toInt _).symm (hk _ _ _ hh p l e R s m args below meth c H locs cells slots D γ σ A lsa C hl)
  · exact hh.elim
def b_lshr (x y : Int) : Int := ((Int64.ofInt x >>> ((Int32.ofInt y).toInt64 &&& 63))).toInt
def p_lshr (k : KT) : KT := fun ls st h => match st with
  | .inl y :: .inr (.inl x) :: st => k ls (aL (b_lshr x y) :: st) h
  | _ => False
theorem s_lshr {K : List KD} {d : Nat} {M : MI} {pc : Nat} {Q : QT} {k : KT} (hd : decode M.2.1 pc = .ok (.lshr, 1)) (hk : ∀ ls st h, k ls st h → V K d M (pc + 1) ls st h Q) : ∀ ls st h, p_lshr k ls st h → V K d M pc ls st h Q := by
  intro ls st h hh
  unfold p_lshr at hh
  split at hh
  · rename_i y x st
    intro p l e R s m args below meth c H locs cells slots D γ σ A lsa C hl
    exact lv_lshr C.1 C.2.1 hd (Int64.ofInt_toInt _).symm (hk _ _ _ hh p l e R s m args below meth c H locs cells slots D γ σ A lsa C hl)
  · exact hh.elim
def b_lcmp (x y : Int) : Int := if y < x then 1 else if x = y then 0 else -1
theorem b_lcmp_ok {x y : Int} (hx : lR x) (hy : lR y) : lg_cmp (Int64.ofInt x) (Int64.ofInt y) = Int32.ofInt (b_lcmp x y) := by
  unfold lg_cmp b_lcmp
  simp only [gt_iff_lt, Int64.lt_iff_toInt_lt, ← Int64.toInt_inj, oL_toInt hx, oL_toInt hy]
  repeat' split
  all_goals rfl
def p_lcmp (k : KT) : KT := fun ls st h => match st with
  | .inr (.inl y) :: .inr (.inl x) :: st => (lR x ∧ lR y) ∧ k ls (aI (b_lcmp x y) :: st) h
  | _ => False
theorem s_lcmp {K : List KD} {d : Nat} {M : MI} {pc : Nat} {Q : QT} {k : KT} (hd : decode M.2.1 pc = .ok (.lcmp, 1)) (hk : ∀ ls st h, k ls st h → V K d M (pc + 1) ls st h Q) : ∀ ls st h, p_lcmp k ls st h → V K d M pc ls st h Q := by
  intro ls st h hh
  unfold p_lcmp at hh
  split at hh
  · rename_i y x st
    obtain ⟨hq, hh⟩ := hh
    intro p l e R s m args below meth c H locs cells slots D γ σ A lsa C hl
    refine W.lcmp C.1 C.2.1 hd ?_
    have h9 := hk _ _ _ hh p l e R s m args below meth c H locs cells slots D γ σ A lsa C hl
    rw [b_lcmp_ok hq.1 hq.2]
    exact h9
  · exact hh.elim
def p_dup (k : KT) : KT := fun ls st h => match st with
  | .inl x :: st => k ls (aI x :: aI x :: st) h
  | .inr (.inr x) :: st => k ls (aR x :: aR x :: st) h
  | _ => False
theorem s_dup {K : List KD} {d : Nat} {M : MI} {pc : Nat} {Q : QT} {k : KT} (hd : decode M.2.1 pc = .ok (.dup, 1)) (hk : ∀ ls st h, k ls st h → V K d M (pc + 1) ls st h Q) : ∀ ls st h, p_dup k ls st h → V K d M pc ls st h Q := by
  intro ls st h hh
  unfold p_dup at hh
  split at hh
  · intro p l e R s m args below meth c H locs cells slots D γ σ A lsa C hl
    exact lv_dup C.1 C.2.1 hd rfl (hk _ _ _ hh p l e R s m args below meth c H locs cells slots D γ σ A lsa C hl)
  · intro p l e R s m args below meth c H locs cells slots D γ σ A lsa C hl
    exact lv_dup C.1 C.2.1 hd rfl (hk _ _ _ hh p l e R s m args below meth c H locs cells slots D γ σ A lsa C hl)
  · exact hh.elim
def p_dup2 (k : KT) : KT := fun ls st h => match st with
  | .inl x :: .inr (.inr y) :: st => k ls (aI x :: aR y :: aI x :: aR y :: st) h
  | _ => False
theorem s_dup2 {K : List KD} {d : Nat} {M : MI} {pc : Nat} {Q : QT} {k : KT} (hd : decode M.2.1 pc = .ok (.dup2, 1)) (hk : ∀ ls st h, k ls st h → V K d M (pc + 1) ls st h Q) : ∀ ls st h, p_dup2 k ls st h → V K d M pc ls st h Q := by
  intro ls st h hh
  unfold p_dup2 at hh
  split at hh
  · intro p l e R s m args below meth c H locs cells slots D γ σ A lsa C hl
    exact lv_dup2_11 C.1 C.2.1 hd rfl rfl (hk _ _ _ hh p l e R s m args below meth c H locs cells slots D γ σ A lsa C hl)
  · exact hh.elim
def p_pop (k : KT) : KT := fun ls st h => match st with
  | .inl _ :: st => k ls st h
  | _ => False
theorem s_pop {K : List KD} {d : Nat} {M : MI} {pc : Nat} {Q : QT} {k : KT} (hd : decode M.2.1 pc = .ok (.pop, 1)) (hk : ∀ ls st h, k ls st h → V K d M (pc + 1) ls st h Q) : ∀ ls st h, p_pop k ls st h → V K d M pc ls st h Q := by
  intro ls st h hh
  unfold p_pop at hh
  split at hh
  · intro p l e R s m args below meth c H locs cells slots D γ σ A lsa C hl
    exact lv_pop C.1 C.2.1 hd rfl (hk _ _ _ hh p l e R s m args below meth c H locs cells slots D γ σ A lsa C hl)
  · exact hh.elim
def p_ceq (kt k : KT) : KT := fun ls st h => match st with
  | .inl y :: .inl x :: st => (iR x ∧ iR y) ∧ (x = y → kt ls st h) ∧ (x ≠ y → k ls st h)
  | _ => False
theorem s_ceq {K : List KD} {d : Nat} {M : MI} {pc : Nat} {Q : QT} {kt k : KT} {off : Int} {tgt : Nat} (hd : decode M.2.1 pc = .ok (.if_icmp .eq off, 3)) (ht : (pc : Int) + off = (tgt : Int)) (hkt : ∀ ls st h, kt ls st h → V K d M tgt ls st h Q) (hk : ∀ ls st h, k ls st h → V K d M (pc + 3) ls st h Q) : ∀ ls st h, p_ceq kt k ls st h → V K d M pc ls st h Q := by
  intro ls st h hh
  unfold p_ceq at hh
  split at hh
  · rename_i y x st
    obtain ⟨hq, hh⟩ := hh
    intro p l e R s m args below meth c H locs cells slots D γ σ A lsa C hl
    exact lv_icmp_eq C.1 C.2.1 hd ht (fun q => hkt _ _ _ (hh.1 ((oI_eq hq.1 hq.2).mp q)) p l e R s m args below meth c H locs cells slots D γ σ A lsa C hl) (fun q => hk _ _ _ (hh.2 (fun z => q ((oI_eq hq.1 hq.2).mpr z))) p l e R s m args below meth c H locs cells slots D γ σ A lsa C hl)
  · exact hh.elim
def p_zeq (kt k : KT) : KT := fun ls st h => match st with
  | .inl x :: st => iR x ∧ (x = 0 → kt ls st h) ∧ (x ≠ 0 → k ls st h)
  | _ => False
theorem s_zeq {K : List KD} {d : Nat} {M : MI} {pc : Nat} {Q : QT} {kt k : KT} {off : Int} {tgt : Nat} (hd : decode M.2.1 pc = .ok (.ifCond .eq off, 3)) (ht : (pc : Int) + off = (tgt : Int)) (hkt : ∀ ls st h, kt ls st h → V K d M tgt ls st h Q) (hk : ∀ ls st h, k ls st h → V K d M (pc + 3) ls st h Q) : ∀ ls st h, p_zeq kt k ls st h → V K d M pc ls st h Q := by
  intro ls st h hh
  unfold p_zeq at hh
  split at hh
  · rename_i x st
    obtain ⟨hq1, hh⟩ := hh
    have hq : iR x ∧ iR 0 := ⟨hq1, iR_0⟩
    intro p l e R s m args below meth c H locs cells slots D γ σ A lsa C hl
    exact lv_if_eq C.1 C.2.1 hd ht (fun q => hkt _ _ _ (hh.1 ((oI_eq hq.1 hq.2).mp q)) p l e R s m args below meth c H locs cells slots D γ σ A lsa C hl) (fun q => hk _ _ _ (hh.2 (fun z => q ((oI_eq hq.1 hq.2).mpr z))) p l e R s m args below meth c H locs cells slots D γ σ A lsa C hl)
  · exact hh.elim
def p_cne (kt k : KT) : KT := fun ls st h => match st with
  | .inl y :: .inl x :: st => (iR x ∧ iR y) ∧ (x ≠ y → kt ls st h) ∧ (x = y → k ls st h)
  | _ => False
theorem s_cne {K : List KD} {d : Nat} {M : MI} {pc : Nat} {Q : QT} {kt k : KT} {off : Int} {tgt : Nat} (hd : decode M.2.1 pc = .ok (.if_icmp .ne off, 3)) (ht : (pc : Int) + off = (tgt : Int)) (hkt : ∀ ls st h, kt ls st h → V K d M tgt ls st h Q) (hk : ∀ ls st h, k ls st h → V K d M (pc + 3) ls st h Q) : ∀ ls st h, p_cne kt k ls st h → V K d M pc ls st h Q := by
  intro ls st h hh
  unfold p_cne at hh
  split at hh
  · rename_i y x st
    obtain ⟨hq, hh⟩ := hh
    intro p l e R s m args below meth c H locs cells slots D γ σ A lsa C hl
    exact lv_icmp_ne C.1 C.2.1 hd ht (fun q => hkt _ _ _ (hh.1 (fun z => q ((oI_eq hq.1 hq.2).mpr z))) p l e R s m args below meth c H locs cells slots D γ σ A lsa C hl) (fun q => hk _ _ _ (hh.2 ((oI_eq hq.1 hq.2).mp q)) p l e R s m args below meth c H locs cells slots D γ σ A lsa C hl)
  · exact hh.elim
def p_zne (kt k : KT) : KT := fun ls st h => match st with
  | .inl x :: st => iR x ∧ (x ≠ 0 → kt ls st h) ∧ (x = 0 → k ls st h)
  | _ => False
theorem s_zne {K : List KD} {d : Nat} {M : MI} {pc : Nat} {Q : QT} {kt k : KT} {off : Int} {tgt : Nat} (hd : decode M.2.1 pc = .ok (.ifCond .ne off, 3)) (ht : (pc : Int) + off = (tgt : Int)) (hkt : ∀ ls st h, kt ls st h → V K d M tgt ls st h Q) (hk : ∀ ls st h, k ls st h → V K d M (pc + 3) ls st h Q) : ∀ ls st h, p_zne kt k ls st h → V K d M pc ls st h Q := by
  intro ls st h hh
  unfold p_zne at hh
  split at hh
  · rename_i x st
    obtain ⟨hq1, hh⟩ := hh
    have hq : iR x ∧ iR 0 := ⟨hq1, iR_0⟩
    intro p l e R s m args below meth c H locs cells slots D γ σ A lsa C hl
    exact lv_if_ne C.1 C.2.1 hd ht (fun q => hkt _ _ _ (hh.1 (fun z => q ((oI_eq hq.1 hq.2).mpr z))) p l e R s m args below meth c H locs cells slots D γ σ A lsa C hl) (fun q => hk _ _ _ (hh.2 ((oI_eq hq.1 hq.2).mp q)) p l e R s m args below meth c H locs cells slots D γ σ A lsa C hl)
  · exact hh.elim
def p_clt (kt k : KT) : KT := fun ls st h => match st with
  | .inl y :: .inl x :: st => (iR x ∧ iR y) ∧ (x < y → kt ls st h) ∧ (y ≤ x → k ls st h)
  | _ => False
theorem s_clt {K : List KD} {d : Nat} {M : MI} {pc : Nat} {Q : QT} {kt k : KT} {off : Int} {tgt : Nat} (hd : decode M.2.1 pc = .ok (.if_icmp .lt off, 3)) (ht : (pc : Int) + off = (tgt : Int)) (hkt : ∀ ls st h, kt ls st h → V K d M tgt ls st h Q) (hk : ∀ ls st h, k ls st h → V K d M (pc + 3) ls st h Q) : ∀ ls st h, p_clt kt k ls st h → V K d M pc ls st h Q := by
  intro ls st h hh
  unfold p_clt at hh
  split at hh
  · rename_i y x st
    obtain ⟨hq, hh⟩ := hh
    intro p l e R s m args below meth c H locs cells slots D γ σ A lsa C hl
    exact lv_icmp_lt C.1 C.2.1 hd ht (fun q => hkt _ _ _ (hh.1 ((oI_lt hq.1 hq.2).mp q)) p l e R s m args below meth c H locs cells slots D γ σ A lsa C hl) (fun q => hk _ _ _ (hh.2 (Int.not_lt.mp (fun z => q ((oI_lt hq.1 hq.2).mpr z)))) p l e R s m args below meth c H locs cells slots D γ σ A lsa C hl)
  · exact hh.elim
def p_zlt (kt k : KT) : KT := fun ls st h => match st with
  | .inl x :: st => iR x ∧ (x < 0 → kt ls st h) ∧ (0 ≤ x → k ls st h)
  | _ => False
theorem s_zlt {K : List KD} {d : Nat} {M : MI} {pc : Nat} {Q : QT} {kt k : KT} {off : Int} {tgt : Nat} (hd : decode M.2.1 pc = .ok (.ifCond .lt off, 3)) (ht : (pc : Int) + off = (tgt : Int)) (hkt : ∀ ls st h, kt ls st h → V K d M tgt ls st h Q) (hk : ∀ ls st h, k ls st h → V K d M (pc + 3) ls st h Q) : ∀ ls st h, p_zlt kt k ls st h → V K d M pc ls st h Q := by
  intro ls st h hh
  unfold p_zlt at hh
  split at hh
  · rename_i x st
    obtain ⟨hq1, hh⟩ := hh
    have hq : iR x ∧ iR 0 := ⟨hq1, iR_0⟩
    intro p l e R s m args below meth c H locs cells slots D γ σ A lsa C hl
    exact lv_if_lt C.1 C.2.1 hd ht (fun q => hkt _ _ _ (hh.1 ((oI_lt hq.1 hq.2).mp q)) p l e R s m args below meth c H locs cells slots D γ σ A lsa C hl) (fun q => hk _ _ _ (hh.2 (Int.not_lt.mp (fun z => q ((oI_lt hq.1 hq.2).mpr z)))) p l e R s m args below meth c H locs cells slots D γ σ A lsa C hl)
  · exact hh.elim
def p_cge (kt k : KT) : KT := fun ls st h => match st with
  | .inl y :: .inl x :: st => (iR x ∧ iR y) ∧ (y ≤ x → kt ls st h) ∧ (x < y → k ls st h)
  | _ => False
theorem s_cge {K : List KD} {d : Nat} {M : MI} {pc : Nat} {Q : QT} {kt k : KT} {off : Int} {tgt : Nat} (hd : decode M.2.1 pc = .ok (.if_icmp .ge off, 3)) (ht : (pc : Int) + off = (tgt : Int)) (hkt : ∀ ls st h, kt ls st h → V K d M tgt ls st h Q) (hk : ∀ ls st h, k ls st h → V K d M (pc + 3) ls st h Q) : ∀ ls st h, p_cge kt k ls st h → V K d M pc ls st h Q := by
  intro ls st h hh
  unfold p_cge at hh
  split at hh
  · rename_i y x st
    obtain ⟨hq, hh⟩ := hh
    intro p l e R s m args below meth c H locs cells slots D γ σ A lsa C hl
    exact lv_icmp_ge C.1 C.2.1 hd ht (fun q => hkt _ _ _ (hh.1 ((oI_le hq.2 hq.1).mp q)) p l e R s m args below meth c H locs cells slots D γ σ A lsa C hl) (fun q => hk _ _ _ (hh.2 (Int.not_le.mp (fun z => q ((oI_le hq.2 hq.1).mpr z)))) p l e R s m args below meth c H locs cells slots D γ σ A lsa C hl)
  · exact hh.elim
def p_zge (kt k : KT) : KT := fun ls st h => match st with
  | .inl x :: st => iR x ∧ (0 ≤ x → kt ls st h) ∧ (x < 0 → k ls st h)
  | _ => False
theorem s_zge {K : List KD} {d : Nat} {M : MI} {pc : Nat} {Q : QT} {kt k : KT} {off : Int} {tgt : Nat} (hd : decode M.2.1 pc = .ok (.ifCond .ge off, 3)) (ht : (pc : Int) + off = (tgt : Int)) (hkt : ∀ ls st h, kt ls st h → V K d M tgt ls st h Q) (hk : ∀ ls st h, k ls st h → V K d M (pc + 3) ls st h Q) : ∀ ls st h, p_zge kt k ls st h → V K d M pc ls st h Q := by
  intro ls st h hh
  unfold p_zge at hh
  split at hh
  · rename_i x st
    obtain ⟨hq1, hh⟩ := hh
    have hq : iR x ∧ iR 0 := ⟨hq1, iR_0⟩
    intro p l e R s m args below meth c H locs cells slots D γ σ A lsa C hl
    exact lv_if_ge C.1 C.2.1 hd ht (fun q => hkt _ _ _ (hh.1 ((oI_le hq.2 hq.1).mp q)) p l e R s m args below meth c H locs cells slots D γ σ A lsa C hl) (fun q => hk _ _ _ (hh.2 (Int.not_le.mp (fun z => q ((oI_le hq.2 hq.1).mpr z)))) p l e R s m args below meth c H locs cells slots D γ σ A lsa C hl)
  · exact hh.elim
def p_cgt (kt k : KT) : KT := fun ls st h => match st with
  | .inl y :: .inl x :: st => (iR x ∧ iR y) ∧ (y < x → kt ls st h) ∧ (x ≤ y → k ls st h)
  | _ => False
theorem s_cgt {K : List KD} {d : Nat} {M : MI} {pc : Nat} {Q : QT} {kt k : KT} {off : Int} {tgt : Nat} (hd : decode M.2.1 pc = .ok (.if_icmp .gt off, 3)) (ht : (pc : Int) + off = (tgt : Int)) (hkt : ∀ ls st h, kt ls st h → V K d M tgt ls st h Q) (hk : ∀ ls st h, k ls st h → V K d M (pc + 3) ls st h Q) : ∀ ls st h, p_cgt kt k ls st h → V K d M pc ls st h Q := by
  intro ls st h hh
  unfold p_cgt at hh
  split at hh
  · rename_i y x st
    obtain ⟨hq, hh⟩ := hh
    intro p l e R s m args below meth c H locs cells slots D γ σ A lsa C hl
    exact lv_icmp_gt C.1 C.2.1 hd ht (fun q => hkt _ _ _ (hh.1 ((oI_lt hq.2 hq.1).mp q)) p l e R s m args below meth c H locs cells slots D γ σ A lsa C hl) (fun q => hk _ _ _ (hh.2 (Int.not_lt.mp (fun z => q ((oI_lt hq.2 hq.1).mpr z)))) p l e R s m args below meth c H locs cells slots D γ σ A lsa C hl)
  · exact hh.elim
def p_zgt (kt k : KT) : KT := fun ls st h => match st with
  | .inl x :: st => iR x ∧ (0 < x → kt ls st h) ∧ (x ≤ 0 → k ls st h)
  | _ => False
theorem s_zgt {K : List KD} {d : Nat} {M : MI} {pc : Nat} {Q : QT} {kt k : KT} {off : Int} {tgt : Nat} (hd : decode M.2.1 pc = .ok (.ifCond .gt off, 3)) (ht : (pc : Int) + off = (tgt : Int)) (hkt : ∀ ls st h, kt ls st h → V K d M tgt ls st h Q) (hk : ∀ ls st h, k ls st h → V K d M (pc + 3) ls st h Q) : ∀ ls st h, p_zgt kt k ls st h → V K d M pc ls st h Q := by
  intro ls st h hh
  unfold p_zgt at hh
  split at hh
  · rename_i x st
    obtain ⟨hq1, hh⟩ := hh
    have hq : iR x ∧ iR 0 := ⟨hq1, iR_0⟩
    intro p l e R s m args below meth c H locs cells slots D γ σ A lsa C hl
    exact lv_if_gt C.1 C.2.1 hd ht (fun q => hkt _ _ _ (hh.1 ((oI_lt hq.2 hq.1).mp q)) p l e R s m args below meth c H locs cells slots D γ σ A lsa C hl) (fun q => hk _ _ _ (hh.2 (Int.not_lt.mp (fun z => q ((oI_lt hq.2 hq.1).mpr z)))) p l e R s m args below meth c H locs cells slots D γ σ A lsa C hl)
  · exact hh.elim
def p_cle (kt k : KT) : KT := fun ls st h => match st with
  | .inl y :: .inl x :: st => (iR x ∧ iR y) ∧ (x ≤ y → kt ls st h) ∧ (y < x → k ls st h)
  | _ => False
theorem s_cle {K : List KD} {d : Nat} {M : MI} {pc : Nat} {Q : QT} {kt k : KT} {off : Int} {tgt : Nat} (hd : decode M.2.1 pc = .ok (.if_icmp .le off, 3)) (ht : (pc : Int) + off = (tgt : Int)) (hkt : ∀ ls st h, kt ls st h → V K d M tgt ls st h Q) (hk : ∀ ls st h, k ls st h → V K d M (pc + 3) ls st h Q) : ∀ ls st h, p_cle kt k ls st h → V K d M pc ls st h Q := by
  intro ls st h hh
  unfold p_cle at hh
  split at hh
  · rename_i y x st
    obtain ⟨hq, hh⟩ := hh
    intro p l e R s m args below meth c H locs cells slots D γ σ A lsa C hl
    exact lv_icmp_le C.1 C.2.1 hd ht (fun q => hkt _ _ _ (hh.1 ((oI_le hq.1 hq.2).mp q)) p l e R s m args below meth c H locs cells slots D γ σ A lsa C hl) (fun q => hk _ _ _ (hh.2 (Int.not_le.mp (fun z => q ((oI_le hq.1 hq.2).mpr z)))) p l e R s m args below meth c H locs cells slots D γ σ A lsa C hl)
  · exact hh.elim
def p_zle (kt k : KT) : KT := fun ls st h => match st with
  | .inl x :: st => iR x ∧ (x ≤ 0 → kt ls st h) ∧ (0 < x → k ls st h)
  | _ => False
theorem s_zle {K : List KD} {d : Nat} {M : MI} {pc : Nat} {Q : QT} {kt k : KT} {off : Int} {tgt : Nat} (hd : decode M.2.1 pc = .ok (.ifCond .le off, 3)) (ht : (pc : Int) + off = (tgt : Int)) (hkt : ∀ ls st h, kt ls st h → V K d M tgt ls st h Q) (hk : ∀ ls st h, k ls st h → V K d M (pc + 3) ls st h Q) : ∀ ls st h, p_zle kt k ls st h → V K d M pc ls st h Q := by
  intro ls st h hh
  unfold p_zle at hh
  split at hh
  · rename_i x st
    obtain ⟨hq1, hh⟩ := hh
    have hq : iR x ∧ iR 0 := ⟨hq1, iR_0⟩
    intro p l e R s m args below meth c H locs cells slots D γ σ A lsa C hl
    exact lv_if_le C.1 C.2.1 hd ht (fun q => hkt _ _ _ (hh.1 ((oI_le hq.1 hq.2).mp q)) p l e R s m args below meth c H locs cells slots D γ σ A lsa C hl) (fun q => hk _ _ _ (hh.2 (Int.not_le.mp (fun z => q ((oI_le hq.1 hq.2).mpr z)))) p l e R s m args below meth c H locs cells slots D γ σ A lsa C hl)
  · exact hh.elim
def p_to (K : List KD) (d : Nat) (M : MI) (Q : QT) (pc : Nat) : KT := fun ls st h => V K d M pc ls st h Q
theorem s_to {K : List KD} {d : Nat} {M : MI} {Q : QT} {pc : Nat} : ∀ ls st h, p_to K d M Q pc ls st h → V K d M pc ls st h Q := fun _ _ _ h => h
theorem s_goto {K : List KD} {d : Nat} {M : MI} {pc : Nat} {Q : QT} {kt : KT} {off : Int} {tgt : Nat} (hd : decode M.2.1 pc = .ok (.goto off, 3)) (ht : (pc : Int) + off = (tgt : Int)) (hkt : ∀ ls st h, kt ls st h → V K d M tgt ls st h Q) : ∀ ls st h, kt ls st h → V K d M pc ls st h Q := by
  intro ls st h hh
  intro p l e R s m args below meth c H locs cells slots D γ σ A lsa C hl
  exact lv_goto C.1 C.2.1 hd ht (hkt _ _ _ hh p l e R s m args below meth c H locs cells slots D γ σ A lsa C hl)
def p_lsw (K : List KD) (d : Nat) (M : MI) (Q : QT) (ps : List (Int × Nat)) (df : Nat) : KT := fun ls st h => match st with
  | .inl x :: st => iR x ∧ (∀ q ∈ ps, x = q.1 → V K d M q.2 ls st h Q) ∧ ((∀ q ∈ ps, x ≠ q.1) → V K d M df ls st h Q)
  | _ => False
def lswo (pc : Nat) (ps : List (Int × Nat)) : List (Int × Int) := ps.map fun q => (q.1, (q.2 : Int) - pc)
theorem lswo_hit {pc : Nat} {df : Int} {x : Int} : ∀ (ps : List (Int × Nat)), (∃ q ∈ ps, x = q.1 ∧ Op.lookupswitch.offset (lswo pc ps) df x = (q.2 : Int) - pc) ∨ ((∀ q ∈ ps, x ≠ q.1) ∧ Op.lookupswitch.offset (lswo pc ps) df x = df)
  | [] => Or.inr ⟨fun _ h => absurd h List.not_mem_nil, rfl⟩
  | q :: r => by
    by_cases hx : x = q.1
    · refine Or.inl ⟨q, List.mem_cons_self, hx, ?_⟩
      show Op.lookupswitch.offset ((q.1, (q.2 : Int) - pc) :: lswo pc r) df x = _
      rw [Op.lookupswitch.offset_cons, if_pos (by rw [hx])]
    · have e : Op.lookupswitch.offset (lswo pc (q :: r)) df x = Op.lookupswitch.offset (lswo pc r) df x := by
        show Op.lookupswitch.offset ((q.1, (q.2 : Int) - pc) :: lswo pc r) df x = _
        rw [Op.lookupswitch.offset_cons, if_neg (fun z => hx z.symm)]
      rcases lswo_hit (pc := pc) (df := df) (x := x) r with ⟨z, h1, h2, h3⟩ | ⟨h1, h2⟩
      · exact Or.inl ⟨z, List.mem_cons_of_mem _ h1, h2, by rw [e]; exact h3⟩
      · exact Or.inr ⟨fun z hz => by rcases List.mem_cons.mp hz with rfl | hz; exact hx; exact h1 z hz, by rw [e]; exact h2⟩
theorem s_lsw {K : List KD} {d : Nat} {M : MI} {pc : Nat} {Q : QT} {dflt : Int} {pa : Array (Int × Int)} {len df : Nat} (ps : List (Int × Nat)) (hd : decode M.2.1 pc = .ok (.lookupswitch dflt pa, len)) (hp : (pa.toList.zip (pa.toList.drop 1)).all (fun (a, next) => a.1 < next.1) = true) (hpa : pa.toList = lswo pc ps) (hdf : (pc : Int) + dflt = (df : Int)) : ∀ ls st h, p_lsw K d M Q ps df ls st h → V K d M pc ls st h Q := by
  intro ls st h hh
  unfold p_lsw at hh
  split at hh
  · rename_i x st
    obtain ⟨hq, h1, h2⟩ := hh
    intro p l e R s m args below meth c H locs cells slots D γ σ A lsa C hl
    rcases lswo_hit (pc := pc) (df := dflt) (x := x) ps with ⟨q, g1, g2, g3⟩ | ⟨g1, g2⟩
    · exact lv_lookup C.1 C.2.1 hd hp (by rw [hpa, oI_toInt hq]) (by rw [g3]; omega) (h1 q g1 g2 p l e R s m args below meth c H locs cells slots D γ σ A lsa C hl)
    · exact lv_lookup C.1 C.2.1 hd hp (by rw [hpa, oI_toInt hq]) (by rw [g2]; exact hdf) (h2 g1 p l e R s m args below meth c H locs cells slots D γ σ A lsa C hl)
  · exact hh.elim
def p_tsw (K : List KD) (d : Nat) (M : MI) (Q : QT) (lo : Int) (ts : List Nat) (df : Nat) : KT := fun ls st h => match st with
  | .inl x :: st => iR x ∧ (∀ (i t : Nat), ts[i]? = some t → x = lo + i → V K d M t ls st h Q) ∧ (x < lo ∨ lo + ts.length ≤ x → V K d M df ls st h Q)
  | _ => False
theorem s_tsw {K : List KD} {d : Nat} {M : MI} {pc : Nat} {Q : QT} {dflt lo hi : Int} {offs : Array Int} {len df : Nat} (ts : List Nat) (hd : decode M.2.1 pc = .ok (.tableswitch dflt lo hi offs, len)) (hts : offs.toList = ts.map (fun (t : Nat) => (t : Int) - pc)) (hhi : lo + ts.length = hi + 1) (hdf : (pc : Int) + dflt = (df : Int)) : ∀ ls st h, p_tsw K d M Q lo ts df ls st h → V K d M pc ls st h Q := by
  intro ls st h hh
  unfold p_tsw at hh
  split at hh
  · rename_i x st
    obtain ⟨hq, h1, h2⟩ := hh
    intro p l e R s m args below meth c H locs cells slots D γ σ A lsa C hl
    by_cases hin : x < lo ∨ hi < x
    · exact lv_tableOut C.1 C.2.1 hd (by rw [oI_toInt hq]; exact hin) hdf (h2 (by omega) p l e R s m args below meth c H locs cells slots D γ σ A lsa C hl)
    · have hlt : (x - lo).toNat < ts.length := by omega
      have hg : ts[(x - lo).toNat]? = some (ts[(x - lo).toNat]) := List.getElem?_eq_getElem hlt
      have ho : offs[(x - lo).toNat]? = some ((ts[(x - lo).toNat] : Int) - pc) := by rw [← Array.getElem?_toList, hts, List.getElem?_map, hg]; rfl
      exact lv_tableIn C.1 C.2.1 hd (by rw [oI_toInt hq]; omega) (by rw [oI_toInt hq]; omega) (by rw [oI_toInt hq]; exact ho) (by omega) (h1 _ _ hg (by omega) p l e R s m args below meth c H locs cells slots D γ σ A lsa C hl)
  · exact hh.elim
def p_iret (P : Int → HP → Prop) : KT := fun _ st h => match st with
  | [.inl x] => P x h
  | _ => False
theorem s_iret {K : List KD} {d : Nat} {M : MI} {pc : Nat} {P : Int → HP → Prop} (hr : M.2.2.2 = some .int) (hd : decode M.2.1 pc = .ok (.ireturn, 1)) : ∀ ls st h, p_iret P ls st h → V K d M pc ls st h (rI P) := by
  intro ls st h hh
  unfold p_iret at hh
  split at hh
  · rename_i x
    intro p l e R s m args below meth c H locs cells slots D γ σ A lsa C hl
    obtain ⟨c1, c2, c3, c4, c5, c6, c7, c8, c9, c10, c11, c12⟩ := C
    exact W.iret c1 c2 (c4.trans hr) (fun t ht hW => ⟨⟨some (aI x), h, rfl, ⟨x, rfl, hh⟩, by rw [ht]; exact c10⟩, c12.F ht⟩) c12.2.2 hd c5
  · exact hh.elim
def p_zret (P : Int → HP → Prop) : KT := fun _ st h => match st with
  | [.inl x] => (x = 0 ∨ x = 1) ∧ P x h
  | _ => False
theorem s_zret {K : List KD} {d : Nat} {M : MI} {pc : Nat} {P : Int → HP → Prop} (hr : M.2.2.2 = some .boolean) (hd : decode M.2.1 pc = .ok (.ireturn, 1)) : ∀ ls st h, p_zret P ls st h → V K d M pc ls st h (rI P) := by
  intro ls st h hh
  unfold p_zret at hh
  split at hh
  · rename_i x
    obtain ⟨hx, hh⟩ := hh
    intro p l e R s m args below meth c H locs cells slots D γ σ A lsa C hl
    obtain ⟨c1, c2, c3, c4, c5, c6, c7, c8, c9, c10, c11, c12⟩ := C
    exact W.zret c1 c2 (c4.trans hr) (by rcases hx with rfl | rfl <;> rfl) (fun t ht hW => ⟨⟨some (aI x), h, rfl, ⟨x, rfl, hh⟩, by rw [ht]; exact c10⟩, c12.F ht⟩) c12.2.2 hd c5
  · exact hh.elim
def p_vret (P : HP → Prop) : KT := fun _ st h => match st with
  | [] => P h
  | _ => False
theorem s_vret {K : List KD} {d : Nat} {M : MI} {pc : Nat} {P : HP → Prop} (hr : M.2.2.2 = none) (hd : decode M.2.1 pc = .ok (.return_, 1)) : ∀ ls st h, p_vret P ls st h → V K d M pc ls st h (rV P) := by
  intro ls st h hh
  unfold p_vret at hh
  split at hh
  · intro p l e R s m args below meth c H locs cells slots D γ σ A lsa C hl
    obtain ⟨c1, c2, c3, c4, c5, c6, c7, c8, c9, c10, c11, c12⟩ := C
    exact W.vret c1 c2 (c4.trans hr) (fun t ht hW => ⟨⟨none, h, rfl, ⟨rfl, hh⟩, by rw [ht]; exact c10⟩, c12.F ht⟩) c12.2.2 hd c5
  · exact hh.elim
end
section
/-! fields, arrays, calls -/
def fkd (K : List KD) (c ci j : Nat) : Option (Option Nat) := match K[c]? with
  | some (0, ci', l) => bif ci' == ci then l[j]? else none
  | _ => none
theorem fkd_some {K : List KD} {c ci j : Nat} {o : Option Nat} (h : fkd K c ci j = some o) : ∃ l, K[c]? = some (0, ci, l) ∧ l[j]? = some o := by
  unfold fkd at h
  split at h
  · rename_i ci' l hk
    cases hb : ci' == ci with
    | true =>
      rw [hb, cond_true] at h
      have : ci' = ci := by simpa using hb
      subst this
      exact ⟨l, hk, h⟩
    | false => rw [hb, cond_false] at h; cases h
  · cases h
def p_get (K : List KD) (ci j : Nat) (k : KT) : KT := fun ls st h => match st with
  | .inr (.inr c) :: st => (match fkd K c ci j with
    | some none => k ls (aI (h c j) :: st) h
    | some (some r) => k ls (aR r :: st) h
    | none => False)
  | _ => False
theorem s_get {K : List KD} {d : Nat} {M : MI} {pc : Nat} {Q : QT} {k : KT} {ci j N ix : Nat} {C : String} {T : u_T} (hc : vwCl[ci]? = some (C, T, N)) (hin : ∀ w ∈ u_ws C T N, w ∈ tb2) (hj : j < N) (hw : Cond.fieldLink M.1.cls ix C (T j).2.1 (T j).2.2.1 ∈ tb2) (hT : (T j).1 = C) (hd : decode M.2.1 pc = .ok (.getfield ix, 3)) (hk : ∀ ls st h, k ls st h → V K d M (pc + 3) ls st h Q) : ∀ ls st h, p_get K ci j k ls st h → V K d M pc ls st h Q := by
  intro ls st h hh
  unfold p_get at hh
  split at hh
  · rename_i c st
    split at hh
    · rename_i hf
      obtain ⟨l, hl1, hl2⟩ := fkd_some hf
      intro p l e R s m args below meth c0 H locs cells slots D γ σ A lsa C hl
      obtain ⟨c1, c2, c3, c4, c5, c6, c7, c8, c9, c10, c11, c12⟩ := id C
      exact va_get c1 c2 c7 hin c6 c9 c10 c (wdl_at hl1) hc j hj (c7 _ hw) (fun x hx => by rw [hT] at hx; exact hx) (v := .int (Int32.ofInt (h c j))) (by simp [List.getElem?_mapIdx, hl2, ofv]) hd (hk _ _ _ hh p l e R s m args below meth c0 H locs cells slots D γ σ A lsa C hl)
    · rename_i r hf
      obtain ⟨l, hl1, hl2⟩ := fkd_some hf
      intro p l e R s m args below meth c0 H locs cells slots D γ σ A lsa C hl
      obtain ⟨c1, c2, c3, c4, c5, c6, c7, c8, c9, c10, c11, c12⟩ := id C
      exact va_get c1 c2 c7 hin c6 c9 c10 c (wdl_at hl1) hc j hj (c7 _ hw) (fun x hx => by rw [hT] at hx; exact hx) (v := .ref (σ r)) (by simp [List.getElem?_mapIdx, hl2, ofv]) hd (hk _ _ _ hh p l e R s m args below meth c0 H locs cells slots D γ σ A lsa C hl)
    · exact hh.elim
  · exact hh.elim
theorem s_getN {K : List KD} {d : Nat} {M : MI} {pc : Nat} {Q : QT} {k : KT} {ci j N ix : Nat} {C host : String} {T : u_T} (hc : vwCl[ci]? = some (C, T, N)) (hin : ∀ w ∈ u_ws C T N, w ∈ tb2) (hj : j < N) (hw : Cond.fieldLinkNest M.1.cls ix C (T j).2.1 (T j).2.2.1 host ∈ tb2) (hT : (T j).1 = C) (hd : decode M.2.1 pc = .ok (.getfield ix, 3)) (hk : ∀ ls st h, k ls st h → V K d M (pc + 3) ls st h Q) : ∀ ls st h, p_get K ci j k ls st h → V K d M pc ls st h Q := by
  intro ls st h hh
  unfold p_get at hh
  split at hh
  · rename_i c st
    split at hh
    · rename_i hf
      obtain ⟨l, hl1, hl2⟩ := fkd_some hf
      intro p l e R s m args below meth c0 H locs cells slots D γ σ A lsa C hl
      obtain ⟨c1, c2, c3, c4, c5, c6, c7, c8, c9, c10, c11, c12⟩ := id C
      exact va_getN c1 c2 c7 hin c6 c9 c10 c (wdl_at hl1) hc j hj (c7 _ hw) (fun x hx => by rw [hT] at hx; exact hx) (v := .int (Int32.ofInt (h c j))) (by simp [List.getElem?_mapIdx, hl2, ofv]) hd (hk _ _ _ hh p l e R s m args below meth c0 H locs cells slots D γ σ A lsa C hl)
    · rename_i r hf
      obtain ⟨l, hl1, hl2⟩ := fkd_some hf
      intro p l e R s m args below meth c0 H locs cells slots D γ σ A lsa C hl
      obtain ⟨c1, c2, c3, c4, c5, c6, c7, c8, c9, c10, c11, c12⟩ := id C
      exact va_getN c1 c2 c7 hin c6 c9 c10 c (wdl_at hl1) hc j hj (c7 _ hw) (fun x hx => by rw [hT] at hx; exact hx) (v := .ref (σ r)) (by simp [List.getElem?_mapIdx, hl2, ofv]) hd (hk _ _ _ hh p l e R s m args below meth c0 H locs cells slots D γ σ A lsa C hl)
    · exact hh.elim
  · exact hh.elim
def p_put (K : List KD) (ci j : Nat) (k : KT) : KT := fun ls st h => match st with
  | .inl x :: .inr (.inr c) :: st => (match fkd K c ci j with
    | some none => k ls st (hset h c j x)
    | _ => False)
  | _ => False
theorem s_put {K : List KD} {d : Nat} {M : MI} {pc : Nat} {Q : QT} {k : KT} {ci j N ix : Nat} {C : String} {T : u_T} {ty : Nat → FieldType} (hc : vwCl[ci]? = some (C, T, N)) (hin : ∀ w ∈ u_ws C T N, w ∈ tb2) (hty : ∀ k, k < N → parseFieldDescriptor (T k).2.2.1 = some (ty k)) (hnm : ∀ a, a < N → ∀ b, b < N → a ≠ b → (T a).2.1 ≠ (T b).2.1) (hj : j < N) (hw : Cond.fieldLink M.1.cls ix C (T j).2.1 (T j).2.2.1 ∈ tb2) (hT : (T j).1 = C) (hf0 : (T j).2.2.2 = false) (hi : ty j = .int) (hd : decode M.2.1 pc = .ok (.putfield ix, 3)) (hk : ∀ ls st h, k ls st h → V K d M (pc + 3) ls st h Q) : ∀ ls st h, p_put K ci j k ls st h → V K d M pc ls st h Q := by
  intro ls st h hh
  unfold p_put at hh
  split at hh
  · rename_i x c st
    split at hh
    · rename_i hf
      obtain ⟨l, hl1, hl2⟩ := fkd_some hf
      intro p l0 e R s m args below meth c0 H locs cells slots D γ σ A lsa C hl
      obtain ⟨c1, c2, c3, c4, c5, c6, c7, c8, c9, c10, c11, c12⟩ := id C
      refine va_put c1 c2 c7 hin ty hty hnm c6 c9 c10 c11 c12 c (wdl_at hl1) hc j hj (c7 _ hw) (fun x hx => by rw [hT] at hx; exact hx) hf0 (ty := .int) (by rw [hty j hj, hi]) rfl rfl (by simp; exact (List.getElem?_eq_some_iff.mp hl2).1) hd (fun H1 locs1 hP hD hS => ?_)
      have hP : va_P D vwCl (wdl γ σ (hset h c j x) K) H1 := by rw [← wdl_setF hl1 hl2]; exact hP
      have hD : va_D A (wdl γ σ (hset h c j x) K) := wdl_D c11
      exact hk _ _ _ hh p l0 e R s m args below meth c0 H1 locs1 cells slots D γ σ A lsa ⟨c1, c2, c3, c4, c5, c6, c7, c8, c9, hP, hD, hS⟩ hl
    · exact hh.elim
  · exact hh.elim
theorem s_putN {K : List KD} {d : Nat} {M : MI} {pc : Nat} {Q : QT} {k : KT} {ci j N ix : Nat} {C host : String} {T : u_T} {ty : Nat → FieldType} (hc : vwCl[ci]? = some (C, T, N)) (hin : ∀ w ∈ u_ws C T N, w ∈ tb2) (hty : ∀ k, k < N → parseFieldDescriptor (T k).2.2.1 = some (ty k)) (hnm : ∀ a, a < N → ∀ b, b < N → a ≠ b → (T a).2.1 ≠ (T b).2.1) (hj : j < N) (hw : Cond.fieldLinkNest M.1.cls ix C (T j).2.1 (T j).2.2.1 host ∈ tb2) (hT : (T j).1 = C) (hf0 : (T j).2.2.2 = false) (hi : ty j = .int) (hd : decode M.2.1 pc = .ok (.putfield ix, 3)) (hk : ∀ ls st h, k ls st h → V K d M (pc + 3) ls st h Q) : ∀ ls st h, p_put K ci j k ls st h → V K d M pc ls st h Q := by
  intro ls st h hh
  unfold p_put at hh
  split at hh
  · rename_i x c st
    split at hh
    · rename_i hf
      obtain ⟨l, hl1, hl2⟩ := fkd_some hf
      intro p l0 e R s m args below meth c0 H locs cells slots D γ σ A lsa C hl
      obtain ⟨c1, c2, c3, c4, c5, c6, c7, c8, c9, c10, c11, c12⟩ := id C
      refine va_putN c1 c2 c7 hin ty hty hnm c6 c9 c10 c11 c12 c (wdl_at hl1) hc j hj (c7 _ hw) (fun x hx => by rw [hT] at hx; exact hx) hf0 (ty := .int) (by rw [hty j hj, hi]) rfl rfl (by simp; exact (List.getElem?_eq_some_iff.mp hl2).1) hd (fun H1 locs1 hP hD hS => ?_)
      have hP : va_P D vwCl (wdl γ σ (hset h c j x) K) H1 := by rw [← wdl_setF hl1 hl2]; exact hP
      have hD : va_D A (wdl γ σ (hset h c j x) K) := wdl_D c11
      exact hk _ _ _ hh p l0 e R s m args below meth c0 H1 locs1 cells slots D γ σ A lsa ⟨c1, c2, c3, c4, c5, c6, c7, c8, c9, hP, hD, hS⟩ hl
    · exact hh.elim
  · exact hh.elim
def akd (K : List KD) (c t n : Nat) : Bool := match K[c]? with
  | some (t', n', _) => t' == t && n' == n
  | none => false
theorem akd_some {K : List KD} {c t n : Nat} (h : akd K c t n = true) : ∃ l, K[c]? = some (t, n, l) := by
  unfold akd at h
  split at h
  · rename_i t' n' l hk
    simp only [Bool.and_eq_true, beq_iff_eq] at h
    obtain ⟨rfl, rfl⟩ := h
    exact ⟨l, hk⟩
  · cases h
theorem arr_at {γ : Nat → ClassId} {σ : Nat → Nat} {h : HP} {K : List KD} {c t n : Nat} {l : List (Option Nat)} (hk : K[c]? = some (t, n, l)) (h0 : t ≠ 0) (h4 : t ≠ 4) : (wdl γ σ h K)[c]? = some (σ c, .inl (γ t, n, .inl (fun i => Int32.ofInt (h c i)))) := by
  rw [wdl_at hk, cEl_arr h0 h4]
theorem nar_b {x : Int} (h1 : -128 ≤ x) (h2 : x ≤ 127) : vp_nar .byte (Int32.ofInt x) = Int32.ofInt x := by
  rw [vp_nar_byte, b_i2b_ok, b_i2b, Int.bmod_eq_of_le (by omega) (by omega)]
theorem nar_z {x : Int} (h1 : 0 ≤ x) (h2 : x ≤ 1) : vp_nar .boolean (Int32.ofInt x) = Int32.ofInt x := by
  rcases (show x = 0 ∨ x = 1 by omega) with rfl | rfl <;> rfl
def p_iald (K : List KD) (n : Nat) (k : KT) : KT := fun ls st h => match st with
  | .inl i :: .inr (.inr c) :: st => bif akd K c 1 n then (0 ≤ i ∧ i < (n : Int)) ∧ k ls (aI (h c i) :: st) h else False
  | _ => False
theorem s_iald {K : List KD} {d : Nat} {M : MI} {pc : Nat} {Q : QT} {k : KT} {n : Nat} (hn : n < 2147483648) (hd : decode M.2.1 pc = .ok (.iaload, 1)) (hk : ∀ ls st h, k ls st h → V K d M (pc + 1) ls st h Q) : ∀ ls st h, p_iald K n k ls st h → V K d M pc ls st h Q := by
  intro ls st h hh
  unfold p_iald at hh
  split at hh
  · rename_i i c st
    cases hb : akd K c 1 n with
    | false => rw [hb, cond_false] at hh; exact hh.elim
    | true =>
    rw [hb, cond_true] at hh
    obtain ⟨⟨h1, h2⟩, hh⟩ := hh
    obtain ⟨l, hl1⟩ := akd_some hb
    intro p l0 e R s m args below meth c0 H locs cells slots D γ σ A lsa C hl
    obtain ⟨c1, c2, c3, c4, c5, c6, c7, c8, c9, c10, c11, c12⟩ := id C
    have h9 := hk _ _ _ hh p l0 e R s m args below meth c0 H locs cells slots D γ σ A lsa C hl
    refine va_iald c1 c2 c9 c10 c 0 (arr_at hl1 (by decide) (by decide)) rfl (oI_in h1 h2 hn) hd ?_
    rw [oI_nat h1 ⟨by omega, by omega⟩, Int.toNat_of_nonneg h1]
    exact h9
  · exact hh.elim
def p_ialdv (K : List KD) (n : Nat) (k : KT) : KT := fun ls st h => match st with
  | .inl i :: .inr (.inr c) :: st => (akd K c 1 n = true ∧ 0 ≤ i ∧ i < (n : Int)) ∧ k ls (aI (h c i) :: st) h
  | _ => False
theorem s_ialdv {K : List KD} {d : Nat} {M : MI} {pc : Nat} {Q : QT} {k : KT} {n : Nat} (hn : n < 2147483648) (hd : decode M.2.1 pc = .ok (.iaload, 1)) (hk : ∀ ls st h, k ls st h → V K d M (pc + 1) ls st h Q) : ∀ ls st h, p_ialdv K n k ls st h → V K d M pc ls st h Q := by
  intro ls st h hh
  unfold p_ialdv at hh
  split at hh
  · rename_i i c st
    obtain ⟨⟨hb, h1, h2⟩, hh⟩ := hh
    obtain ⟨l, hl1⟩ := akd_some hb
    intro p l0 e R s m args below meth c0 H locs cells slots D γ σ A lsa C hl
    obtain ⟨c1, c2, c3, c4, c5, c6, c7, c8, c9, c10, c11, c12⟩ := id C
    have h9 := hk _ _ _ hh p l0 e R s m args below meth c0 H locs cells slots D γ σ A lsa C hl
    refine va_iald c1 c2 c9 c10 c 0 (arr_at hl1 (by decide) (by decide)) rfl (oI_in h1 h2 hn) hd ?_
    rw [oI_nat h1 ⟨by omega, by omega⟩, Int.toNat_of_nonneg h1]
    exact h9
  · exact hh.elim
def p_bald (K : List KD) (n : Nat) (k : KT) : KT := fun ls st h => match st with
  | .inl i :: .inr (.inr c) :: st => bif akd K c 2 n then (0 ≤ i ∧ i < (n : Int)) ∧ k ls (aI (h c i) :: st) h else False
  | _ => False
theorem s_bald {K : List KD} {d : Nat} {M : MI} {pc : Nat} {Q : QT} {k : KT} {n : Nat} (hn : n < 2147483648) (hd : decode M.2.1 pc = .ok (.baload, 1)) (hk : ∀ ls st h, k ls st h → V K d M (pc + 1) ls st h Q) : ∀ ls st h, p_bald K n k ls st h → V K d M pc ls st h Q := by
  intro ls st h hh
  unfold p_bald at hh
  split at hh
  · rename_i i c st
    cases hb : akd K c 2 n with
    | false => rw [hb, cond_false] at hh; exact hh.elim
    | true =>
    rw [hb, cond_true] at hh
    obtain ⟨⟨h1, h2⟩, hh⟩ := hh
    obtain ⟨l, hl1⟩ := akd_some hb
    intro p l0 e R s m args below meth c0 H locs cells slots D γ σ A lsa C hl
    obtain ⟨c1, c2, c3, c4, c5, c6, c7, c8, c9, c10, c11, c12⟩ := id C
    have h9 := hk _ _ _ hh p l0 e R s m args below meth c0 H locs cells slots D γ σ A lsa C hl
    refine va_bald c1 c2 c9 c10 c 1 (arr_at hl1 (by decide) (by decide)) rfl (oI_in h1 h2 hn) hd ?_
    rw [oI_nat h1 ⟨by omega, by omega⟩, Int.toNat_of_nonneg h1]
    exact h9
  · exact hh.elim
def p_baldv (K : List KD) (n : Nat) (k : KT) : KT := fun ls st h => match st with
  | .inl i :: .inr (.inr c) :: st => (akd K c 2 n = true ∧ 0 ≤ i ∧ i < (n : Int)) ∧ k ls (aI (h c i) :: st) h
  | _ => False
theorem s_baldv {K : List KD} {d : Nat} {M : MI} {pc : Nat} {Q : QT} {k : KT} {n : Nat} (hn : n < 2147483648) (hd : decode M.2.1 pc = .ok (.baload, 1)) (hk : ∀ ls st h, k ls st h → V K d M (pc + 1) ls st h Q) : ∀ ls st h, p_baldv K n k ls st h → V K d M pc ls st h Q := by
  intro ls st h hh
  unfold p_baldv at hh
  split at hh
  · rename_i i c st
    obtain ⟨⟨hb, h1, h2⟩, hh⟩ := hh
    obtain ⟨l, hl1⟩ := akd_some hb
    intro p l0 e R s m args below meth c0 H locs cells slots D γ σ A lsa C hl
    obtain ⟨c1, c2, c3, c4, c5, c6, c7, c8, c9, c10, c11, c12⟩ := id C
    have h9 := hk _ _ _ hh p l0 e R s m args below meth c0 H locs cells slots D γ σ A lsa C hl
    refine va_bald c1 c2 c9 c10 c 1 (arr_at hl1 (by decide) (by decide)) rfl (oI_in h1 h2 hn) hd ?_
    rw [oI_nat h1 ⟨by omega, by omega⟩, Int.toNat_of_nonneg h1]
    exact h9
  · exact hh.elim
def p_zald (K : List KD) (n : Nat) (k : KT) : KT := fun ls st h => match st with
  | .inl i :: .inr (.inr c) :: st => bif akd K c 3 n then (0 ≤ i ∧ i < (n : Int)) ∧ k ls (aI (h c i) :: st) h else False
  | _ => False
theorem s_zald {K : List KD} {d : Nat} {M : MI} {pc : Nat} {Q : QT} {k : KT} {n : Nat} (hn : n < 2147483648) (hd : decode M.2.1 pc = .ok (.baload, 1)) (hk : ∀ ls st h, k ls st h → V K d M (pc + 1) ls st h Q) : ∀ ls st h, p_zald K n k ls st h → V K d M pc ls st h Q := by
  intro ls st h hh
  unfold p_zald at hh
  split at hh
  · rename_i i c st
    cases hb : akd K c 3 n with
    | false => rw [hb, cond_false] at hh; exact hh.elim
    | true =>
    rw [hb, cond_true] at hh
    obtain ⟨⟨h1, h2⟩, hh⟩ := hh
    obtain ⟨l, hl1⟩ := akd_some hb
    intro p l0 e R s m args below meth c0 H locs cells slots D γ σ A lsa C hl
    obtain ⟨c1, c2, c3, c4, c5, c6, c7, c8, c9, c10, c11, c12⟩ := id C
    have h9 := hk _ _ _ hh p l0 e R s m args below meth c0 H locs cells slots D γ σ A lsa C hl
    refine va_zald c1 c2 c9 c10 c 2 (arr_at hl1 (by decide) (by decide)) rfl (oI_in h1 h2 hn) hd ?_
    rw [oI_nat h1 ⟨by omega, by omega⟩, Int.toNat_of_nonneg h1]
    exact h9
  · exact hh.elim
def p_zaldv (K : List KD) (n : Nat) (k : KT) : KT := fun ls st h => match st with
  | .inl i :: .inr (.inr c) :: st => (akd K c 3 n = true ∧ 0 ≤ i ∧ i < (n : Int)) ∧ k ls (aI (h c i) :: st) h
  | _ => False
theorem s_zaldv {K : List KD} {d : Nat} {M : MI} {pc : Nat} {Q : QT} {k : KT} {n : Nat} (hn : n < 2147483648) (hd : decode M.2.1 pc = .ok (.baload, 1)) (hk : ∀ ls st h, k ls st h → V K d M (pc + 1) ls st h Q) : ∀ ls st h, p_zaldv K n k ls st h → V K d M pc ls st h Q := by
  intro ls st h hh
  unfold p_zaldv at hh
  split at hh
  · rename_i i c st
    obtain ⟨⟨hb, h1, h2⟩, hh⟩ := hh
    obtain ⟨l, hl1⟩ := akd_some hb
    intro p l0 e R s m args below meth c0 H locs cells slots D γ σ A lsa C hl
    obtain ⟨c1, c2, c3, c4, c5, c6, c7, c8, c9, c10, c11, c12⟩ := id C
    have h9 := hk _ _ _ hh p l0 e R s m args below meth c0 H locs cells slots D γ σ A lsa C hl
    refine va_zald c1 c2 c9 c10 c 2 (arr_at hl1 (by decide) (by decide)) rfl (oI_in h1 h2 hn) hd ?_
    rw [oI_nat h1 ⟨by omega, by omega⟩, Int.toNat_of_nonneg h1]
    exact h9
  · exact hh.elim
def p_iast (K : List KD) (n : Nat) (k : KT) : KT := fun ls st h => match st with
  | .inl x :: .inl i :: .inr (.inr c) :: st => bif akd K c 1 n then (0 ≤ i ∧ i < (n : Int)) ∧ k ls st (hset h c i x) else False
  | _ => False
theorem s_iast {K : List KD} {d : Nat} {M : MI} {pc : Nat} {Q : QT} {k : KT} {n : Nat} (hn : n < 2147483648) (hd : decode M.2.1 pc = .ok (.iastore, 1)) (hk : ∀ ls st h, k ls st h → V K d M (pc + 1) ls st h Q) : ∀ ls st h, p_iast K n k ls st h → V K d M pc ls st h Q := by
  intro ls st h hh
  unfold p_iast at hh
  split at hh
  · rename_i x i c st
    cases hb : akd K c 1 n with
    | false => rw [hb, cond_false] at hh; exact hh.elim
    | true =>
    rw [hb, cond_true] at hh
    obtain ⟨⟨h1, h2⟩, hh⟩ := hh
    obtain ⟨l, hl1⟩ := akd_some hb
    intro p l0 e R s m args below meth c0 H locs cells slots D γ σ A lsa C hl
    obtain ⟨c1, c2, c3, c4, c5, c6, c7, c8, c9, c10, c11, c12⟩ := id C
    refine va_iast c1 c2 c9 c10 c11 c12 c 0 (arr_at hl1 (by decide) (by decide)) rfl (oI_in h1 h2 hn) hd (fun H1 locs1 hP hD hS => ?_)
    rw [oI_nat h1 ⟨by omega, by omega⟩] at hP hD
    rw [wdl_setA hl1 (by decide) (by decide), Int.toNat_of_nonneg h1] at hP hD
    exact hk _ _ _ hh p l0 e R s m args below meth c0 H1 locs1 cells slots D γ σ A lsa ⟨c1, c2, c3, c4, c5, c6, c7, c8, c9, hP, hD, hS⟩ hl
  · exact hh.elim
def p_iastv (K : List KD) (n : Nat) (k : KT) : KT := fun ls st h => match st with
  | .inl x :: .inl i :: .inr (.inr c) :: st => (akd K c 1 n = true ∧ 0 ≤ i ∧ i < (n : Int)) ∧ k ls st (hset h c i x)
  | _ => False
theorem s_iastv {K : List KD} {d : Nat} {M : MI} {pc : Nat} {Q : QT} {k : KT} {n : Nat} (hn : n < 2147483648) (hd : decode M.2.1 pc = .ok (.iastore, 1)) (hk : ∀ ls st h, k ls st h → V K d M (pc + 1) ls st h Q) : ∀ ls st h, p_iastv K n k ls st h → V K d M pc ls st h Q := by
  intro ls st h hh
  unfold p_iastv at hh
  split at hh
  · rename_i x i c st
    obtain ⟨⟨hb, h1, h2⟩, hh⟩ := hh
    obtain ⟨l, hl1⟩ := akd_some hb
    intro p l0 e R s m args below meth c0 H locs cells slots D γ σ A lsa C hl
    obtain ⟨c1, c2, c3, c4, c5, c6, c7, c8, c9, c10, c11, c12⟩ := id C
    refine va_iast c1 c2 c9 c10 c11 c12 c 0 (arr_at hl1 (by decide) (by decide)) rfl (oI_in h1 h2 hn) hd (fun H1 locs1 hP hD hS => ?_)
    rw [oI_nat h1 ⟨by omega, by omega⟩] at hP hD
    rw [wdl_setA hl1 (by decide) (by decide), Int.toNat_of_nonneg h1] at hP hD
    exact hk _ _ _ hh p l0 e R s m args below meth c0 H1 locs1 cells slots D γ σ A lsa ⟨c1, c2, c3, c4, c5, c6, c7, c8, c9, hP, hD, hS⟩ hl
  · exact hh.elim
def p_bast (K : List KD) (n : Nat) (k : KT) : KT := fun ls st h => match st with
  | .inl x :: .inl i :: .inr (.inr c) :: st => bif akd K c 2 n then (0 ≤ i ∧ i < (n : Int) ∧ -128 ≤ x ∧ x ≤ 127) ∧ k ls st (hset h c i x) else False
  | _ => False
theorem s_bast {K : List KD} {d : Nat} {M : MI} {pc : Nat} {Q : QT} {k : KT} {n : Nat} (hn : n < 2147483648) (hd : decode M.2.1 pc = .ok (.bastore, 1)) (hk : ∀ ls st h, k ls st h → V K d M (pc + 1) ls st h Q) : ∀ ls st h, p_bast K n k ls st h → V K d M pc ls st h Q := by
  intro ls st h hh
  unfold p_bast at hh
  split at hh
  · rename_i x i c st
    cases hb : akd K c 2 n with
    | false => rw [hb, cond_false] at hh; exact hh.elim
    | true =>
    rw [hb, cond_true] at hh
    obtain ⟨⟨h1, h2, h3, h4⟩, hh⟩ := hh
    obtain ⟨l, hl1⟩ := akd_some hb
    intro p l0 e R s m args below meth c0 H locs cells slots D γ σ A lsa C hl
    obtain ⟨c1, c2, c3, c4, c5, c6, c7, c8, c9, c10, c11, c12⟩ := id C
    refine va_bast c1 c2 c9 c10 c11 c12 c 1 (arr_at hl1 (by decide) (by decide)) rfl (oI_in h1 h2 hn) hd (fun H1 locs1 hP hD hS => ?_)
    rw [oI_nat h1 ⟨by omega, by omega⟩] at hP hD
    rw [show vp_nar .byte (Int32.ofInt x) = Int32.ofInt x from nar_b h3 h4] at hP hD
    rw [wdl_setA hl1 (by decide) (by decide), Int.toNat_of_nonneg h1] at hP hD
    exact hk _ _ _ hh p l0 e R s m args below meth c0 H1 locs1 cells slots D γ σ A lsa ⟨c1, c2, c3, c4, c5, c6, c7, c8, c9, hP, hD, hS⟩ hl
  · exact hh.elim
def p_bastv (K : List KD) (n : Nat) (k : KT) : KT := fun ls st h => match st with
  | .inl x :: .inl i :: .inr (.inr c) :: st => (akd K c 2 n = true ∧ 0 ≤ i ∧ i < (n : Int) ∧ -128 ≤ x ∧ x ≤ 127) ∧ k ls st (hset h c i x)
  | _ => False
theorem s_bastv {K : List KD} {d : Nat} {M : MI} {pc : Nat} {Q : QT} {k : KT} {n : Nat} (hn : n < 2147483648) (hd : decode M.2.1 pc = .ok (.bastore, 1)) (hk : ∀ ls st h, k ls st h → V K d M (pc + 1) ls st h Q) : ∀ ls st h, p_bastv K n k ls st h → V K d M pc ls st h Q := by
  intro ls st h hh
  unfold p_bastv at hh
  split at hh
  · rename_i x i c st
    obtain ⟨⟨hb, h1, h2, h3, h4⟩, hh⟩ := hh
    obtain ⟨l, hl1⟩ := akd_some hb
    intro p l0 e R s m args below meth c0 H locs cells slots D γ σ A lsa C hl
    obtain ⟨c1, c2, c3, c4, c5, c6, c7, c8, c9, c10, c11, c12⟩ := id C
    refine va_bast c1 c2 c9 c10 c11 c12 c 1 (arr_at hl1 (by decide) (by decide)) rfl (oI_in h1 h2 hn) hd (fun H1 locs1 hP hD hS => ?_)
    rw [oI_nat h1 ⟨by omega, by omega⟩] at hP hD
    rw [show vp_nar .byte (Int32.ofInt x) = Int32.ofInt x from nar_b h3 h4] at hP hD
    rw [wdl_setA hl1 (by decide) (by decide), Int.toNat_of_nonneg h1] at hP hD
    exact hk _ _ _ hh p l0 e R s m args below meth c0 H1 locs1 cells slots D γ σ A lsa ⟨c1, c2, c3, c4, c5, c6, c7, c8, c9, hP, hD, hS⟩ hl
  · exact hh.elim
def p_zast (K : List KD) (n : Nat) (k : KT) : KT := fun ls st h => match st with
  | .inl x :: .inl i :: .inr (.inr c) :: st => bif akd K c 3 n then (0 ≤ i ∧ i < (n : Int) ∧ 0 ≤ x ∧ x ≤ 1) ∧ k ls st (hset h c i x) else False
  | _ => False
theorem s_zast {K : List KD} {d : Nat} {M : MI} {pc : Nat} {Q : QT} {k : KT} {n : Nat} (hn : n < 2147483648) (hd : decode M.2.1 pc = .ok (.bastore, 1)) (hk : ∀ ls st h, k ls st h → V K d M (pc + 1) ls st h Q) : ∀ ls st h, p_zast K n k ls st h → V K d M pc ls st h Q := by
  intro ls st h hh
  unfold p_zast at hh
  split at hh
  · rename_i x i c st
    cases hb : akd K c 3 n with
    | false => rw [hb, cond_false] at hh; exact hh.elim
    | true =>
    rw [hb, cond_true] at hh
    obtain ⟨⟨h1, h2, h3, h4⟩, hh⟩ := hh
    obtain ⟨l, hl1⟩ := akd_some hb
    intro p l0 e R s m args below meth c0 H locs cells slots D γ σ A lsa C hl
    obtain ⟨c1, c2, c3, c4, c5, c6, c7, c8, c9, c10, c11, c12⟩ := id C
    refine va_zast c1 c2 c9 c10 c11 c12 c 2 (arr_at hl1 (by decide) (by decide)) rfl (oI_in h1 h2 hn) hd (fun H1 locs1 hP hD hS => ?_)
    rw [oI_nat h1 ⟨by omega, by omega⟩] at hP hD
    rw [show vp_nar .boolean (Int32.ofInt x) = Int32.ofInt x from nar_z h3 h4] at hP hD
    rw [wdl_setA hl1 (by decide) (by decide), Int.toNat_of_nonneg h1] at hP hD
    exact hk _ _ _ hh p l0 e R s m args below meth c0 H1 locs1 cells slots D γ σ A lsa ⟨c1, c2, c3, c4, c5, c6, c7, c8, c9, hP, hD, hS⟩ hl
  · exact hh.elim
def p_zastv (K : List KD) (n : Nat) (k : KT) : KT := fun ls st h => match st with
  | .inl x :: .inl i :: .inr (.inr c) :: st => (akd K c 3 n = true ∧ 0 ≤ i ∧ i < (n : Int) ∧ 0 ≤ x ∧ x ≤ 1) ∧ k ls st (hset h c i x)
  | _ => False
theorem s_zastv {K : List KD} {d : Nat} {M : MI} {pc : Nat} {Q : QT} {k : KT} {n : Nat} (hn : n < 2147483648) (hd : decode M.2.1 pc = .ok (.bastore, 1)) (hk : ∀ ls st h, k ls st h → V K d M (pc + 1) ls st h Q) : ∀ ls st h, p_zastv K n k ls st h → V K d M pc ls st h Q := by
  intro ls st h hh
  unfold p_zastv at hh
  split at hh
  · rename_i x i c st
    obtain ⟨⟨hb, h1, h2, h3, h4⟩, hh⟩ := hh
    obtain ⟨l, hl1⟩ := akd_some hb
    intro p l0 e R s m args below meth c0 H locs cells slots D γ σ A lsa C hl
    obtain ⟨c1, c2, c3, c4, c5, c6, c7, c8, c9, c10, c11, c12⟩ := id C
    refine va_zast c1 c2 c9 c10 c11 c12 c 2 (arr_at hl1 (by decide) (by decide)) rfl (oI_in h1 h2 hn) hd (fun H1 locs1 hP hD hS => ?_)
    rw [oI_nat h1 ⟨by omega, by omega⟩] at hP hD
    rw [show vp_nar .boolean (Int32.ofInt x) = Int32.ofInt x from nar_z h3 h4] at hP hD
    rw [wdl_setA hl1 (by decide) (by decide), Int.toNat_of_nonneg h1] at hP hD
    exact hk _ _ _ hh p l0 e R s m args below meth c0 H1 locs1 cells slots D γ σ A lsa ⟨c1, c2, c3, c4, c5, c6, c7, c8, c9, hP, hD, hS⟩ hl
  · exact hh.elim
end
section
/-! rows of rows, Math, arraycopy, calls -/
def rwk (K : List KD) (c b n : Nat) : Bool := match K[c]? with
  | some (4, n', l) => n' == n && l == (List.range n).map (fun i => some (b + i))
  | _ => false
theorem rwk_some {K : List KD} {c b n : Nat} (h : rwk K c b n = true) : K[c]? = some (4, n, (List.range n).map (fun i => some (b + i))) := by
  unfold rwk at h
  split at h
  · rename_i n' l hk
    simp only [Bool.and_eq_true, beq_iff_eq] at h
    obtain ⟨rfl, rfl⟩ := h
    exact hk
  · cases h
def p_aald (K : List KD) (b n : Nat) (k : KT) : KT := fun ls st h => match st with
  | .inl i :: .inr (.inr c) :: st => bif rwk K c b n then (0 ≤ i ∧ i < (n : Int)) ∧ k ls (aR (b + i.toNat) :: st) h else False
  | _ => False
theorem s_aald {K : List KD} {d : Nat} {M : MI} {pc : Nat} {Q : QT} {k : KT} {b n : Nat} (hn : n < 2147483648) (hd : decode M.2.1 pc = .ok (.aaload, 1)) (hk : ∀ ls st h, k ls st h → V K d M (pc + 1) ls st h Q) : ∀ ls st h, p_aald K b n k ls st h → V K d M pc ls st h Q := by
  intro ls st h hh
  unfold p_aald at hh
  split at hh
  · rename_i i c st
    cases hb : rwk K c b n with
    | false => rw [hb, cond_false] at hh; exact hh.elim
    | true =>
    rw [hb, cond_true] at hh
    obtain ⟨⟨h1, h2⟩, hh⟩ := hh
    have hl1 := rwk_some hb
    intro p l0 e R s m args below meth c0 H locs cells slots D γ σ A lsa C hl
    obtain ⟨c1, c2, c3, c4, c5, c6, c7, c8, c9, c10, c11, c12⟩ := id C
    have h9 := hk _ _ _ hh p l0 e R s m args below meth c0 H locs cells slots D γ σ A lsa C hl
    have hlt : i.toNat < n := by omega
    have hcell : H[σ c]? = some (vp_cell (γ 4) (n, .inr (.inr (.inr (.inr (fun i => (((List.range n).map (fun i => some (b + i))).getD i none).map σ)))))) := c10 c _ (wdl_at hl1)
    refine W.aald (v := .ref (σ (b + i.toNat))) (ty := .array .int) c1 c2 hcell ((c9.2 3 _ rfl).1 n (fun j => va_rf ((((List.range n).map (fun i => some (b + i))).getD j none).map σ))) rfl (fun q => by cases q) (by show ¬ (Int32.ofInt i < 0 ∨ (arrV _ _ _).slots.size ≤ _); rw [arrV_size]; exact oI_in h1 h2 hn) ?_ rfl rfl hd h9
    rw [oI_nat h1 ⟨by omega, by omega⟩]
    show (arrV _ _ _).slots[_]? = _
    rw [arrV_read _ _ hlt]
    simp [List.getD_eq_getElem?_getD, hlt, va_rf]
  · exact hh.elim
def p_imax (k : KT) : KT := fun ls st h => match st with
  | .inl y :: .inl x :: st => bif Nat.ble (slen st) 8 then (iR x ∧ iR y) ∧ k ls (aI (max x y) :: st) h else False
  | _ => False
theorem s_imax {K : List KD} {d : Nat} {M : MI} {pc : Nat} {Q : QT} {k : KT} {ix : Nat} (hw : Cond.methodLink M.1.cls ix Lib.Math.max.name ∈ tb2) (hw1 : Cond.static Lib.Math.max.name ∈ tb2) (hw2 : Cond.initialized "java/lang/Math" ∈ tb2) (hw3 : Cond.code Lib.Math.max.name Lib.Math.max.code 2 (some .int) ∈ tb2) (hd : decode M.2.1 pc = .ok (.invokestatic ix, 3)) (hk : ∀ ls st h, k ls st h → V K (d + 1) M (pc + 3) ls st h Q) : ∀ ls st h, p_imax k ls st h → V K (d + 1) M pc ls st h Q := by
  intro ls st h hh
  unfold p_imax at hh
  split at hh
  · rename_i y x st
    cases hb8 : Nat.ble (slen st) 8 with
    | false => rw [hb8, cond_false] at hh; exact hh.elim
    | true =>
    rw [hb8, cond_true] at hh
    have hs8 := Nat.le_of_ble_eq_true hb8
    obtain ⟨hq, hh⟩ := hh
    intro p l0 e R s m args below meth c0 H locs cells slots D γ σ A lsa C hl
    obtain ⟨c1, c2, c3, c4, c5, c6, c7, ⟨e1, e2, e3, e4⟩, c9, c10, c11, c12⟩ := id C
    have h9 := hk _ _ _ hh p l0 e R s m args below meth c0 H locs cells slots D γ σ A lsa C hl
    refine va_mmax c1 c2 (c3.trans hl.1.symm) c6 (c7 _ hw) (c7 _ hw1) (c7 _ hw2) (c7 _ hw3) (by omega) (by rw [slen_cat]; have : slen st ≤ 8 := hs8; omega) e3 e4 hd ?_
    have e9 : (if Int32.ofInt x < Int32.ofInt y then Int32.ofInt y else Int32.ofInt x) = Int32.ofInt (max x y) := by
      by_cases hxy : x < y
      · rw [if_pos ((oI_lt hq.1 hq.2).mpr hxy), show max x y = y by omega]
      · rw [if_neg (fun z => hxy ((oI_lt hq.1 hq.2).mp z)), show max x y = x by omega]
    rw [e9]
    exact h9
  · exact hh.elim
def p_imin (k : KT) : KT := fun ls st h => match st with
  | .inl y :: .inl x :: st => bif Nat.ble (slen st) 8 then (iR x ∧ iR y) ∧ k ls (aI (min x y) :: st) h else False
  | _ => False
theorem s_imin {K : List KD} {d : Nat} {M : MI} {pc : Nat} {Q : QT} {k : KT} {ix : Nat} (hw : Cond.methodLink M.1.cls ix Lib.Math.min.name ∈ tb2) (hw1 : Cond.static Lib.Math.min.name ∈ tb2) (hw2 : Cond.initialized "java/lang/Math" ∈ tb2) (hw3 : Cond.code Lib.Math.min.name Lib.Math.min.code 2 (some .int) ∈ tb2) (hd : decode M.2.1 pc = .ok (.invokestatic ix, 3)) (hk : ∀ ls st h, k ls st h → V K (d + 1) M (pc + 3) ls st h Q) : ∀ ls st h, p_imin k ls st h → V K (d + 1) M pc ls st h Q := by
  intro ls st h hh
  unfold p_imin at hh
  split at hh
  · rename_i y x st
    cases hb8 : Nat.ble (slen st) 8 with
    | false => rw [hb8, cond_false] at hh; exact hh.elim
    | true =>
    rw [hb8, cond_true] at hh
    have hs8 := Nat.le_of_ble_eq_true hb8
    obtain ⟨hq, hh⟩ := hh
    intro p l0 e R s m args below meth c0 H locs cells slots D γ σ A lsa C hl
    obtain ⟨c1, c2, c3, c4, c5, c6, c7, ⟨e1, e2, e3, e4⟩, c9, c10, c11, c12⟩ := id C
    have h9 := hk _ _ _ hh p l0 e R s m args below meth c0 H locs cells slots D γ σ A lsa C hl
    refine va_mmin c1 c2 (c3.trans hl.1.symm) c6 (c7 _ hw) (c7 _ hw1) (c7 _ hw2) (c7 _ hw3) (by omega) (by rw [slen_cat]; have : slen st ≤ 8 := hs8; omega) e3 e4 hd ?_
    have e9 : (if Int32.ofInt y < Int32.ofInt x then Int32.ofInt y else Int32.ofInt x) = Int32.ofInt (min x y) := by
      by_cases hxy : y < x
      · rw [if_pos ((oI_lt hq.2 hq.1).mpr hxy), show min x y = y by omega]
      · rw [if_neg (fun z => hxy ((oI_lt hq.2 hq.1).mp z)), show min x y = x by omega]
    rw [e9]
    exact h9
  · exact hh.elim
/-- a row is copied over another -/
def hcpy (h : HP) (a b : Nat) (n : Int) : HP := hrow h b (fun i => if 0 ≤ i ∧ i < n then h a i else h b i)
def p_acopy (K : List KD) (n : Nat) (k : KT) : KT := fun ls st h => match st with
  | .inl x :: .inl dp :: .inr (.inr b) :: .inl sp :: .inr (.inr a) :: st => bif Nat.ble (slen st) 8 then (x = (n : Int) ∧ dp = 0 ∧ sp = 0 ∧ akd K a 1 n = true ∧ akd K b 1 n = true) ∧ k ls st (hcpy h a b n) else False
  | _ => False
theorem s_acopy {K : List KD} {d : Nat} {M : MI} {pc : Nat} {Q : QT} {k : KT} {ix n : Nat} (hn : n < 2147483648) (hw : Cond.methodLink M.1.cls ix arraycopyName ∈ tb2) (hw1 : Cond.native arraycopyName ∈ tb2) (hw2 : Cond.static arraycopyName ∈ tb2) (hw3 : Cond.initialized "java/lang/System" ∈ tb2) (hd : decode M.2.1 pc = .ok (.invokestatic ix, 3)) (hk : ∀ ls st h, k ls st h → V K (d + 1) M (pc + 3) ls st h Q) : ∀ ls st h, p_acopy K n k ls st h → V K (d + 1) M pc ls st h Q := by
  intro ls st h hh
  unfold p_acopy at hh
  split at hh
  · rename_i x dp b sp a st
    cases hb8 : Nat.ble (slen st) 8 with
    | false => rw [hb8, cond_false] at hh; exact hh.elim
    | true =>
    rw [hb8, cond_true] at hh
    have hs8 := Nat.le_of_ble_eq_true hb8
    obtain ⟨⟨rfl, rfl, rfl, ha, hb⟩, hh⟩ := hh
    obtain ⟨la, ha⟩ := akd_some ha
    obtain ⟨lb, hb⟩ := akd_some hb
    intro p l0 e R s m args below meth c0 H locs cells slots D γ σ A lsa C hl
    obtain ⟨c1, c2, c3, c4, c5, c6, c7, ⟨e1, e2, e3, e4⟩, c9, c10, c11, c12⟩ := id C
    have hnn : (Int32.ofInt (n : Int)).toNatClampNeg = n := by rw [oI_nat (by omega) ⟨by omega, by omega⟩]; omega
    have hz : (Int32.ofInt 0).toNatClampNeg = 0 := rfl
    refine va_copyi (ty := .int) c1 c2 (c3.trans hl.1.symm) c6 (c7 _ hw) (c7 _ hw1) (c7 _ hw2) (c7 _ hw3) c9 c10 c11 c12 a b 0 0 (arr_at ha (by decide) (by decide)) (arr_at hb (by decide) (by decide)) rfl rfl rfl (by decide) (by decide) ?_ ?_ ?_ (fun _ _ => rfl) (by omega) ?_ hd (fun H1 locs1 hP hD hS => ?_)
    · intro q
      have := (oI_lt (x := (n : Int)) (y := 0) ⟨by omega, by omega⟩ iR_0).mp q
      omega
    · rw [hnn, hz]; omega
    · rw [hnn, hz]; omega
    · rw [slen_cat]
      have : slen st ≤ 8 := hs8
      have : nativeFrameWords "java/lang/System" "arraycopy" 5 = 7 := by decide
      omega
    · rw [hnn, hz] at hP
      have hP : va_P D vwCl (wdl γ σ (hcpy h a b n) K) H1 := by
        rw [hcpy, ← wdl_setR (g := va_cpy (fun i => Int32.ofInt (h a i)) (fun i => Int32.ofInt (h b i)) 0 0 n) hb (by decide) (by decide)]
        · exact hP
        · intro i
          by_cases hi : i < n
          · have : (0 : Int) ≤ i ∧ (i : Int) < n := ⟨by omega, by omega⟩
            simp [va_cpy, hi]
          · simp [va_cpy, hi]
      exact hk _ _ _ hh p l0 e R s m args below meth c0 H1 locs1 cells slots D γ σ A lsa ⟨c1, c2, c3, c4, c5, c6, c7, ⟨e1, e2, e3, e4⟩, c9, hP, wdl_D c11, hS⟩ hl
  · exact hh.elim
/-! calls -/
def ocl (K : List KD) (c ci : Nat) : Bool := match K[c]? with
  | some (0, ci', _) => ci' == ci
  | _ => false
theorem ocl_some {K : List KD} {c ci : Nat} (h : ocl K c ci = true) : ∃ l, K[c]? = some (0, ci, l) := by
  unfold ocl at h
  split at h
  · rename_i ci' l hk
    have : ci' = ci := by simpa using h
    subst this
    exact ⟨l, hk⟩
  · cases h
def ccv (K : List KD) (ci np : Nat) (M : MI) (as rest : List AV) : Bool := match as with
  | .inr (.inr c) :: r => ocl K c ci && (r.length == np && (Nat.ble (slen as) M.2.2.1 && Nat.ble (slen rest) 8))
  | _ => false
def ccs (np : Nat) (M : MI) (as rest : List AV) : Bool := as.length == np && (Nat.ble (slen as) M.2.2.1 && Nat.ble (slen rest) 8)
def okM (M : MI) (np : Nat) : Prop := plainName M.1.cls = true ∧ M.1.cls ≠ "java/lang/invoke/MethodHandle" ∧ M.1.cls ≠ "java/lang/invoke/VarHandle" ∧ Cond.code M.1 M.2.1 M.2.2.1 M.2.2.2 ∈ tb2 ∧ Cond.initialized M.1.cls ∈ tb2 ∧ M.2.2.1 ≤ 45 ∧ (parseMethodDescriptor M.1.desc).map (fun d => d.parameters.length) = some np
def okV (M : MI) (ci np : Nat) : Prop := okM M np ∧ Cond.instanceMethod M.1 ∈ tb2 ∧ Cond.selects M.1.cls M.1 M.1 ∈ tb2 ∧ ∃ (T : u_T) (N : Nat), vwCl[ci]? = some (M.1.cls, T, N)
def okS (M : MI) (np : Nat) : Prop := okM M np ∧ Cond.static M.1 ∈ tb2
theorem okM_len {M : MI} {np : Nat} (h : okM M np) : ∀ sig, parseMethodDescriptor M.1.desc = some sig → np = sig.parameters.length := fun sig hs => by
  have h2 := h.2.2.2.2.2.2
  rw [hs] at h2
  exact (Option.some.inj h2).symm
theorem tb2_pay {M : MI} {args : Array Value} {s : State} {np : Nat} (hM : okM M np) (h : ∀ w ∈ tb2, w.before args s = true) : ∀ w ∈ (Cond.code M.1 M.2.1 M.2.2.1 M.2.2.2 :: tb2), ∀ (a' : Array Value) (U : State), s.WarmedH U.vm → w.before a' U = true := by
  intro w hw a' U hW
  have hw : w ∈ tb2 := by
    rcases List.mem_cons.mp hw with rfl | hw
    · exact hM.2.2.2.1
    · exact hw
  exact tb2_warm h hW w hw
theorem pc_blind {D : va_G} {γ : Nat → ClassId} {σ : Nat → Nat} {h : HP} {K : List KD} {A : Nat → Prop} {av : List Value} : FrameBlind (va_Pc av (fun U => va_P D vwCl (wdl γ σ h K) U.heap ∧ va_K D vwCl (tyl γ) U ∧ va_D A (wdl γ σ h K))) := by
  intro a U g mk q
  obtain ⟨q0, qP, qK, qD⟩ := q
  exact ⟨q0, qP, va_K.moved (u := U) (U := U.calling g mk a) (Vm.Alike.refl U.vm) qK, qD⟩
/-- behind a call -/
theorem call_on {p : Program} {l : Launch} {e : Env} {R : Room} {s : State} {m : MethodId} {args : Array Value} {below : List Frame} {meth : Method} {c : Code} {H : Heap} {locs : List Loc} {cells slots : Nat} {D : va_G} {γ : Nat → ClassId} {σ : Nat → Nat} {A : Nat → Prop} {lsa : Array Slot} {K : List KD} {d : Nat} {M : MI} {pc : Nat} {ls : LSt} {st0 : List Value} {rest : List AV} {h : HP} {Q Q1 : QT} {a : Array Value}
    (C : Cn K d M h p R s m args meth c H locs cells slots D γ σ A) (hl : lhas σ lsa M.2.2.1 ls)
    (hr : va_Run p l e R s m args below meth c H locs cells slots 0 0 (F0 m pc lsa st0) (rest.map (cvv σ)) (Qv D γ σ K A Q1 a) A)
    (kk : ∀ r h', Q1 r h' → V K d M (pc + 3) ls (r.toList ++ rest) h' Q) : W p l e R s m args below meth c H locs cells slots (MQ below (Qv D γ σ K A Q) args s cells slots A) (F0 m pc lsa st0) := by
  obtain ⟨c1, c2, c3, c4, c5, c6, c7, c8, c9, c10, c11, c12⟩ := C
  intro T hT X
  obtain ⟨v, st₀, t, T', L, h0, X', hL, e1, e2, ⟨⟨r, h', hv, hq, hP'⟩, hz, hk⟩, st⟩ := hr T hT X
  have hv : v = r.map (cvv σ) := by injection hv
  subst hv
  rw [h0] at hz hk
  have hS : va_S A s.heap T'.heap (locs ++ L) := ⟨Nat.le_trans c12.1 (by rw [e1]; exact hz), fun q h1 h2 => by rw [e1, hk q (Nat.lt_of_lt_of_le h1 c12.1) h2]; exact c12.2.1 q h1 h2, fun q hq => by
      rcases List.mem_append.mp hq with h | h
      · exact c12.2.2 q h
      · exact hL q h⟩
  obtain ⟨t2, a1, b1⟩ := kk r h' hq p l e R s m args below meth c T'.heap (locs ++ L) cells slots D γ σ A lsa ⟨c1, c2, c3, c4, c5, c6, c7, c8, c9, by rw [e1]; exact hP', wdl_D c11, hS⟩ hl T' rfl X'
  refine ⟨t2, st t2 ?_, b1⟩
  have e9 : (r.map (cvv σ)).toList ++ rest.map (cvv σ) = (r.toList ++ rest).map (cvv σ) := by cases r <;> rfl
  show Steps _ _ _ (T'.setTop { F0 m pc lsa st0 with pc := pc + 3, stack := (r.map (cvv σ)).toList ++ rest.map (cvv σ) }) t2
  rw [e9]
  exact a1
theorem ccv_ok {K : List KD} {ci np : Nat} {M : MI} {as rest : List AV} (h : ccv K ci np M as rest = true) : ∃ (c : Nat) (r : List AV) (l : List (Option Nat)), as = aR c :: r ∧ K[c]? = some (0, ci, l) ∧ r.length = np ∧ slen as ≤ M.2.2.1 ∧ slen rest ≤ 8 := by
  unfold ccv at h
  split at h
  · rename_i c r
    simp only [Bool.and_eq_true, beq_iff_eq] at h
    obtain ⟨h1, h2, h3, h4⟩ := h
    obtain ⟨l, hl⟩ := ocl_some h1
    exact ⟨c, r, l, rfl, hl, h2, Nat.le_of_ble_eq_true h3, Nat.le_of_ble_eq_true h4⟩
  · cases h
theorem stk_v {σ : Nat → Nat} {st : List AV} {n c : Nat} {r : List AV} (h : (st.take n).reverse = aR c :: r) : st.map (cvv σ) = (r.map (cvv σ)).reverse ++ .ref (σ c) :: (st.drop n).map (cvv σ) := by
  have h1 : st.take n = r.reverse ++ [aR c] := by
    have := congrArg List.reverse h
    simpa using this
  conv => lhs; rw [← List.take_append_drop n st, h1]
  simp [cvv, List.map_reverse]
theorem stk_s {σ : Nat → Nat} {st : List AV} {n : Nat} : st.map (cvv σ) = (((st.take n).reverse).map (cvv σ)).reverse ++ (st.drop n).map (cvv σ) := by
  conv => lhs; rw [← List.take_append_drop n st]
  simp [List.map_reverse]
def p_cV (K : List KD) (d : Nat) (M' : MI) (ci np : Nat) (Q1 : LSt → List AV → QT) : KT := fun ls st h => bif ccv K ci np M' (st.take (np + 1)).reverse (st.drop (np + 1)) then Ct K d M' (st.take (np + 1)).reverse h (Q1 ls (st.drop (np + 1))) else False
def p_cS (K : List KD) (d : Nat) (M' : MI) (np : Nat) (Q1 : LSt → List AV → QT) : KT := fun ls st h => bif ccs np M' (st.take np).reverse (st.drop np) then Ct K d M' (st.take np).reverse h (Q1 ls (st.drop np)) else False
theorem rm_ok {d maxL : Nat} {R : Room} (h1 : d + 1 ≤ R.frames) (h2 : 64 * (d + 1) ≤ R.locals) (hm : maxL ≤ 45) : d + 1 ≤ R.frames ∧ 8 + (maxL + 11) + 64 * d ≤ R.locals := ⟨h1, by omega⟩
theorem s_cV {K : List KD} {d : Nat} {M M' : MI} {pc : Nat} {Q : QT} {ci np ix : Nat} {Q1 : LSt → List AV → QT} (hM : okV M' ci np) (hw : Cond.methodLink M.1.cls ix M'.1 ∈ tb2) (hd : decode M.2.1 pc = .ok (.invokevirtual ix, 3)) (hk : ∀ ls st r h, Q1 ls st r h → V K (d + 1) M (pc + 3) ls (r.toList ++ st) h Q) : ∀ ls st h, p_cV K d M' ci np Q1 ls st h → V K (d + 1) M pc ls st h Q := by
  intro ls st h hh
  unfold p_cV at hh
  cases hb : ccv K ci np M' (st.take (np + 1)).reverse (st.drop (np + 1)) with
  | false => rw [hb, cond_false] at hh; exact hh.elim
  | true =>
  rw [hb, cond_true] at hh
  obtain ⟨c, r, l, has, hl1, hr, hs1, hs2⟩ := ccv_ok hb
  intro p l0 e R s m args below meth c0 H locs cells slots D γ σ A lsa C hl
  obtain ⟨c1, c2, c3, c4, c5, c6, c7, ⟨e1, e2, e3, e4⟩, c9, c10, c11, c12⟩ := id C
  obtain ⟨⟨m1, m2, m3, m4, m5, m6, m7⟩, m8, m9, T, N, m10⟩ := id hM
  have hrun := va_runV (C := M'.1.cls) (n := np) (As := r.map (cvv σ)) (b := σ c) (rest := (st.drop (np + 1)).map (cvv σ)) (locs := locs) (cells := cells) (slots := slots) (below := below) (meth := meth) (R := R) (e := e) (g := F0 m pc lsa (st.map (cvv σ))) ⟨c1, c2, c3, c6, c7⟩ (met_of hh m1 hs1 l0 D γ σ A)
    ⟨⟨rfl, rfl, (rm_ok e1 e2 m6).1, (rm_ok e1 e2 m6).2, tb2_pay hM.1 c7, List.mem_cons_self, c7 _ m4, c7 _ m5, ⟨m2, m3⟩, okM_len hM.1, c7 _ hw⟩, c7 _ m8, c7 _ m9⟩
    ⟨pc_blind, va_recv (q := (M'.1.cls, T, N)) c9 c10 m10 (wdl_at hl1), fun U hU hW => ⟨by rw [has]; rfl, by rw [hU]; exact c10, va_K.moved hW.alike c9, c11⟩⟩ rfl (by simp [hr]) hl.1 (stk_v has) (by show 2 * 0 + _ ≤ 8; rw [slen_cat]; omega) hd ⟨e3, e4⟩
  exact call_on C hl hrun (fun r h' hq => hk _ _ _ _ hq)
theorem s_cVN {K : List KD} {d : Nat} {M M' : MI} {pc : Nat} {Q : QT} {ci np ix : Nat} {host : String} {Q1 : LSt → List AV → QT} (hM : okV M' ci np) (hw : Cond.methodLinkNest M.1.cls ix M'.1 host ∈ tb2) (hd : decode M.2.1 pc = .ok (.invokevirtual ix, 3)) (hk : ∀ ls st r h, Q1 ls st r h → V K (d + 1) M (pc + 3) ls (r.toList ++ st) h Q) : ∀ ls st h, p_cV K d M' ci np Q1 ls st h → V K (d + 1) M pc ls st h Q := by
  intro ls st h hh
  unfold p_cV at hh
  cases hb : ccv K ci np M' (st.take (np + 1)).reverse (st.drop (np + 1)) with
  | false => rw [hb, cond_false] at hh; exact hh.elim
  | true =>
  rw [hb, cond_true] at hh
  obtain ⟨c, r, l, has, hl1, hr, hs1, hs2⟩ := ccv_ok hb
  intro p l0 e R s m args below meth c0 H locs cells slots D γ σ A lsa C hl
  obtain ⟨c1, c2, c3, c4, c5, c6, c7, ⟨e1, e2, e3, e4⟩, c9, c10, c11, c12⟩ := id C
  obtain ⟨⟨m1, m2, m3, m4, m5, m6, m7⟩, m8, m9, T, N, m10⟩ := id hM
  have hrun := va_runVN (C := M'.1.cls) (n := np) (As := r.map (cvv σ)) (b := σ c) (rest := (st.drop (np + 1)).map (cvv σ)) (locs := locs) (cells := cells) (slots := slots) (below := below) (meth := meth) (R := R) (e := e) (g := F0 m pc lsa (st.map (cvv σ))) ⟨c1, c2, c3, c6, c7⟩ (met_of hh m1 hs1 l0 D γ σ A)
    ⟨⟨⟨rfl, rfl, (rm_ok e1 e2 m6).1, (rm_ok e1 e2 m6).2, tb2_pay hM.1 c7, List.mem_cons_self⟩, c7 _ m4, c7 _ m5, ⟨m2, m3⟩, okM_len hM.1, c7 _ hw⟩, c7 _ m8, c7 _ m9⟩
    ⟨pc_blind, va_recv (q := (M'.1.cls, T, N)) c9 c10 m10 (wdl_at hl1), fun U hU hW => ⟨by rw [has]; rfl, by rw [hU]; exact c10, va_K.moved hW.alike c9, c11⟩⟩ rfl (by simp [hr]) hl.1 (stk_v has) (by show 2 * 0 + _ ≤ 8; rw [slen_cat]; omega) hd ⟨e3, e4⟩
  exact call_on C hl hrun (fun r h' hq => hk _ _ _ _ hq)
theorem ccs_ok {np : Nat} {M : MI} {as rest : List AV} (h : ccs np M as rest = true) : as.length = np ∧ slen as ≤ M.2.2.1 ∧ slen rest ≤ 8 := by
  unfold ccs at h
  simp only [Bool.and_eq_true, beq_iff_eq] at h
  exact ⟨h.1, Nat.le_of_ble_eq_true h.2.1, Nat.le_of_ble_eq_true h.2.2⟩
theorem s_cS {K : List KD} {d : Nat} {M M' : MI} {pc : Nat} {Q : QT} {np ix : Nat} {Q1 : LSt → List AV → QT} (hM : okS M' np) (hw : Cond.methodLink M.1.cls ix M'.1 ∈ tb2) (hd : decode M.2.1 pc = .ok (.invokestatic ix, 3)) (hk : ∀ ls st r h, Q1 ls st r h → V K (d + 1) M (pc + 3) ls (r.toList ++ st) h Q) : ∀ ls st h, p_cS K d M' np Q1 ls st h → V K (d + 1) M pc ls st h Q := by
  intro ls st h hh
  unfold p_cS at hh
  cases hb : ccs np M' (st.take np).reverse (st.drop np) with
  | false => rw [hb, cond_false] at hh; exact hh.elim
  | true =>
  rw [hb, cond_true] at hh
  obtain ⟨hr, hs1, hs2⟩ := ccs_ok hb
  intro p l0 e R s m args below meth c0 H locs cells slots D γ σ A lsa C hl
  obtain ⟨c1, c2, c3, c4, c5, c6, c7, ⟨e1, e2, e3, e4⟩, c9, c10, c11, c12⟩ := id C
  obtain ⟨⟨m1, m2, m3, m4, m5, m6, m7⟩, m8⟩ := id hM
  have hrun := va_runS (n := np) (As := ((st.take np).reverse).map (cvv σ)) (rest := (st.drop np).map (cvv σ)) (locs := locs) (cells := cells) (slots := slots) (below := below) (meth := meth) (R := R) (e := e) (H := H) (g := F0 m pc lsa (st.map (cvv σ))) ⟨c1, c2, c3, c6, c7⟩ (met_of hh m1 hs1 l0 D γ σ A)
    ⟨⟨rfl, rfl, (rm_ok e1 e2 m6).1, (rm_ok e1 e2 m6).2, tb2_pay hM.1 c7, List.mem_cons_self, c7 _ m4, c7 _ m5, ⟨m2, m3⟩, okM_len hM.1, c7 _ hw⟩, c7 _ m8⟩
    ⟨pc_blind, fun U hU hW => ⟨rfl, by rw [hU]; exact c10, va_K.moved hW.alike c9, c11⟩⟩ rfl (by simpa using hr) hl.1 stk_s (by show 2 * 0 + _ ≤ 8; rw [slen_cat]; omega) hd ⟨e3, e4⟩
  exact call_on C hl hrun (fun r h' hq => hk _ _ _ _ hq)
theorem s_cSN {K : List KD} {d : Nat} {M M' : MI} {pc : Nat} {Q : QT} {np ix : Nat} {host : String} {Q1 : LSt → List AV → QT} (hM : okS M' np) (hw : Cond.methodLinkNest M.1.cls ix M'.1 host ∈ tb2) (hd : decode M.2.1 pc = .ok (.invokestatic ix, 3)) (hk : ∀ ls st r h, Q1 ls st r h → V K (d + 1) M (pc + 3) ls (r.toList ++ st) h Q) : ∀ ls st h, p_cS K d M' np Q1 ls st h → V K (d + 1) M pc ls st h Q := by
  intro ls st h hh
  unfold p_cS at hh
  cases hb : ccs np M' (st.take np).reverse (st.drop np) with
  | false => rw [hb, cond_false] at hh; exact hh.elim
  | true =>
  rw [hb, cond_true] at hh
  obtain ⟨hr, hs1, hs2⟩ := ccs_ok hb
  intro p l0 e R s m args below meth c0 H locs cells slots D γ σ A lsa C hl
  obtain ⟨c1, c2, c3, c4, c5, c6, c7, ⟨e1, e2, e3, e4⟩, c9, c10, c11, c12⟩ := id C
  obtain ⟨⟨m1, m2, m3, m4, m5, m6, m7⟩, m8⟩ := id hM
  have hrun := va_runSN (n := np) (As := ((st.take np).reverse).map (cvv σ)) (rest := (st.drop np).map (cvv σ)) (locs := locs) (cells := cells) (slots := slots) (below := below) (meth := meth) (R := R) (e := e) (H := H) (g := F0 m pc lsa (st.map (cvv σ))) ⟨c1, c2, c3, c6, c7⟩ (met_of hh m1 hs1 l0 D γ σ A)
    ⟨⟨⟨rfl, rfl, (rm_ok e1 e2 m6).1, (rm_ok e1 e2 m6).2, tb2_pay hM.1 c7, List.mem_cons_self⟩, c7 _ m4, c7 _ m5, ⟨m2, m3⟩, okM_len hM.1, c7 _ hw⟩, c7 _ m8, trivial⟩
    ⟨pc_blind, fun U hU hW => ⟨rfl, by rw [hU]; exact c10, va_K.moved hW.alike c9, c11⟩⟩ rfl (by simpa using hr) hl.1 stk_s (by show 2 * 0 + _ ≤ 8; rw [slen_cat]; omega) hd ⟨e3, e4⟩
  exact call_on C hl hrun (fun r h' hq => hk _ _ _ _ hq)
/-- what goes on behind a call that answers an int, nothing -/
abbrev qI (k : KT) : LSt → List AV → QT := fun ls st => rI (fun v h => k ls (aI v :: st) h)
abbrev qV (k : KT) : LSt → List AV → QT := fun ls st => rV (fun h => k ls st h)
theorem kI {K : List KD} {d : Nat} {M : MI} {pc : Nat} {Q : QT} {k : KT} (hk : ∀ ls st h, k ls st h → V K d M pc ls st h Q) : ∀ ls st r h, qI k ls st r h → V K d M pc ls (r.toList ++ st) h Q := by
  rintro ls st r h ⟨v, rfl, hq⟩
  exact hk _ _ _ hq
theorem kV {K : List KD} {d : Nat} {M : MI} {pc : Nat} {Q : QT} {k : KT} (hk : ∀ ls st h, k ls st h → V K d M pc ls st h Q) : ∀ ls st r h, qV k ls st r h → V K d M pc ls (r.toList ++ st) h Q := by
  rintro ls st r h ⟨rfl, hq⟩
  exact hk _ _ _ hq
end
