section
-- ===== PART A: goes FIRST, ahead of the names: the tables' words, and 'selects' of the private methods out of them =====
/-- a private method of a class that the tables say can be made, by its rows of tables_1 -/
def lw_okq (q : MethodName × Nat) : Prop := (q.1.cls ≠ "java/lang/invoke/MethodHandle" ∧ q.1.cls ≠ "java/lang/invoke/VarHandle") ∧ Cond.instantiable q.1.cls q.2 ∈ tables_1 ∧ Cond.privateMethod q.1 ∈ tables_1 ∧ Cond.instanceMethod q.1 ∈ tables_1
theorem lw_p0 : lw_okq (⟨"WithOneHand", "addCuff", "(III)I"⟩, 16) := ⟨⟨by decide +kernel, by decide +kernel⟩, List.mem_of_getElem? (i := 16) (by decide +kernel), List.mem_of_getElem? (i := 271) (by decide +kernel), List.mem_of_getElem? (i := 272) (by decide +kernel)⟩
theorem lw_p1 : lw_okq (⟨"WithOneHand", "cameFrom", "(LWithOneHand$Shelf;I)Z"⟩, 16) := ⟨⟨by decide +kernel, by decide +kernel⟩, List.mem_of_getElem? (i := 16) (by decide +kernel), List.mem_of_getElem? (i := 293) (by decide +kernel), List.mem_of_getElem? (i := 294) (by decide +kernel)⟩
theorem lw_p2 : lw_okq (⟨"WithOneHand", "isThere", "(II)Z"⟩, 16) := ⟨⟨by decide +kernel, by decide +kernel⟩, List.mem_of_getElem? (i := 16) (by decide +kernel), List.mem_of_getElem? (i := 309) (by decide +kernel), List.mem_of_getElem? (i := 310) (by decide +kernel)⟩
theorem lw_p3 : lw_okq (⟨"WithOneHand", "holdersOf", "(I)I"⟩, 16) := ⟨⟨by decide +kernel, by decide +kernel⟩, List.mem_of_getElem? (i := 16) (by decide +kernel), List.mem_of_getElem? (i := 313) (by decide +kernel), List.mem_of_getElem? (i := 314) (by decide +kernel)⟩
theorem lw_p4 : lw_okq (⟨"WithOneHand$History", "forgetOldest", "()V"⟩, 6) := ⟨⟨by decide +kernel, by decide +kernel⟩, List.mem_of_getElem? (i := 26) (by decide +kernel), List.mem_of_getElem? (i := 321) (by decide +kernel), List.mem_of_getElem? (i := 322) (by decide +kernel)⟩
theorem lw_p5 : lw_okq (⟨"WithOneHand", "isCuff", "(I)Z"⟩, 16) := ⟨⟨by decide +kernel, by decide +kernel⟩, List.mem_of_getElem? (i := 16) (by decide +kernel), List.mem_of_getElem? (i := 332) (by decide +kernel), List.mem_of_getElem? (i := 333) (by decide +kernel)⟩
theorem lw_p6 : lw_okq (⟨"WithOneHand$Law", "readsLine", "()Z"⟩, 9) := ⟨⟨by decide +kernel, by decide +kernel⟩, List.mem_of_getElem? (i := 148) (by decide +kernel), List.mem_of_getElem? (i := 348) (by decide +kernel), List.mem_of_getElem? (i := 349) (by decide +kernel)⟩
theorem lw_p7 : lw_okq (⟨"WithOneHand$Law", "readsPart", "(II)Z"⟩, 9) := ⟨⟨by decide +kernel, by decide +kernel⟩, List.mem_of_getElem? (i := 148) (by decide +kernel), List.mem_of_getElem? (i := 352) (by decide +kernel), List.mem_of_getElem? (i := 353) (by decide +kernel)⟩
theorem lw_p8 : lw_okq (⟨"WithOneHand$Law", "readsOperand", "(I)Z"⟩, 9) := ⟨⟨by decide +kernel, by decide +kernel⟩, List.mem_of_getElem? (i := 148) (by decide +kernel), List.mem_of_getElem? (i := 356) (by decide +kernel), List.mem_of_getElem? (i := 357) (by decide +kernel)⟩
theorem lw_p9 : lw_okq (⟨"WithOneHand$Law", "here", "()I"⟩, 9) := ⟨⟨by decide +kernel, by decide +kernel⟩, List.mem_of_getElem? (i := 148) (by decide +kernel), List.mem_of_getElem? (i := 360) (by decide +kernel), List.mem_of_getElem? (i := 361) (by decide +kernel)⟩
theorem lw_p10 : lw_okq (⟨"WithOneHand$Law", "readsNumber", "()Z"⟩, 9) := ⟨⟨by decide +kernel, by decide +kernel⟩, List.mem_of_getElem? (i := 148) (by decide +kernel), List.mem_of_getElem? (i := 367) (by decide +kernel), List.mem_of_getElem? (i := 368) (by decide +kernel)⟩
theorem lw_p11 : lw_okq (⟨"WithOneHand$Law", "add", "(II)V"⟩, 9) := ⟨⟨by decide +kernel, by decide +kernel⟩, List.mem_of_getElem? (i := 148) (by decide +kernel), List.mem_of_getElem? (i := 371) (by decide +kernel), List.mem_of_getElem? (i := 372) (by decide +kernel)⟩
theorem lw_p12 : lw_okq (⟨"WithOneHand$Law", "closes", "()Z"⟩, 9) := ⟨⟨by decide +kernel, by decide +kernel⟩, List.mem_of_getElem? (i := 148) (by decide +kernel), List.mem_of_getElem? (i := 378) (by decide +kernel), List.mem_of_getElem? (i := 379) (by decide +kernel)⟩
theorem lw_p13 : lw_okq (⟨"WithOneHand", "isLinkAndCuff", "(I)Z"⟩, 16) := ⟨⟨by decide +kernel, by decide +kernel⟩, List.mem_of_getElem? (i := 16) (by decide +kernel), List.mem_of_getElem? (i := 389) (by decide +kernel), List.mem_of_getElem? (i := 390) (by decide +kernel)⟩
theorem lw_p14 : lw_okq (⟨"WithOneHand", "takesNow", "(II)I"⟩, 16) := ⟨⟨by decide +kernel, by decide +kernel⟩, List.mem_of_getElem? (i := 16) (by decide +kernel), List.mem_of_getElem? (i := 393) (by decide +kernel), List.mem_of_getElem? (i := 394) (by decide +kernel)⟩
theorem lw_p15 : lw_okq (⟨"WithOneHand", "takesByHand", "(IIII)I"⟩, 16) := ⟨⟨by decide +kernel, by decide +kernel⟩, List.mem_of_getElem? (i := 16) (by decide +kernel), List.mem_of_getElem? (i := 397) (by decide +kernel), List.mem_of_getElem? (i := 398) (by decide +kernel)⟩
def lw_privs_1 : List (MethodName × Nat) := [(⟨"WithOneHand", "addCuff", "(III)I"⟩, 16), (⟨"WithOneHand", "cameFrom", "(LWithOneHand$Shelf;I)Z"⟩, 16), (⟨"WithOneHand", "isThere", "(II)Z"⟩, 16), (⟨"WithOneHand", "holdersOf", "(I)I"⟩, 16), (⟨"WithOneHand$History", "forgetOldest", "()V"⟩, 6), (⟨"WithOneHand", "isCuff", "(I)Z"⟩, 16), (⟨"WithOneHand$Law", "readsLine", "()Z"⟩, 9), (⟨"WithOneHand$Law", "readsPart", "(II)Z"⟩, 9), (⟨"WithOneHand$Law", "readsOperand", "(I)Z"⟩, 9), (⟨"WithOneHand$Law", "here", "()I"⟩, 9), (⟨"WithOneHand$Law", "readsNumber", "()Z"⟩, 9), (⟨"WithOneHand$Law", "add", "(II)V"⟩, 9), (⟨"WithOneHand$Law", "closes", "()Z"⟩, 9), (⟨"WithOneHand", "isLinkAndCuff", "(I)Z"⟩, 16), (⟨"WithOneHand", "takesNow", "(II)I"⟩, 16), (⟨"WithOneHand", "takesByHand", "(IIII)I"⟩, 16)]
theorem lw_r1 : ∀ q ∈ lw_privs_1, lw_okq q := List.forall_mem_cons.mpr ⟨lw_p0, List.forall_mem_cons.mpr ⟨lw_p1, List.forall_mem_cons.mpr ⟨lw_p2, List.forall_mem_cons.mpr ⟨lw_p3, List.forall_mem_cons.mpr ⟨lw_p4, List.forall_mem_cons.mpr ⟨lw_p5, List.forall_mem_cons.mpr ⟨lw_p6, List.forall_mem_cons.mpr ⟨lw_p7, List.forall_mem_cons.mpr ⟨lw_p8, List.forall_mem_cons.mpr ⟨lw_p9, List.forall_mem_cons.mpr ⟨lw_p10, List.forall_mem_cons.mpr ⟨lw_p11, List.forall_mem_cons.mpr ⟨lw_p12, List.forall_mem_cons.mpr ⟨lw_p13, List.forall_mem_cons.mpr ⟨lw_p14, List.forall_mem_cons.mpr ⟨lw_p15, fun _ h => absurd h List.not_mem_nil⟩⟩⟩⟩⟩⟩⟩⟩⟩⟩⟩⟩⟩⟩⟩⟩
theorem lw_p16 : lw_okq (⟨"WithOneHand", "takesWith", "(IIIII)I"⟩, 16) := ⟨⟨by decide +kernel, by decide +kernel⟩, List.mem_of_getElem? (i := 16) (by decide +kernel), List.mem_of_getElem? (i := 401) (by decide +kernel), List.mem_of_getElem? (i := 402) (by decide +kernel)⟩
theorem lw_p17 : lw_okq (⟨"WithOneHand$Law", "pop", "()I"⟩, 9) := ⟨⟨by decide +kernel, by decide +kernel⟩, List.mem_of_getElem? (i := 148) (by decide +kernel), List.mem_of_getElem? (i := 420) (by decide +kernel), List.mem_of_getElem? (i := 421) (by decide +kernel)⟩
theorem lw_p18 : lw_okq (⟨"WithOneHand$Law", "push", "(I)V"⟩, 9) := ⟨⟨by decide +kernel, by decide +kernel⟩, List.mem_of_getElem? (i := 148) (by decide +kernel), List.mem_of_getElem? (i := 424) (by decide +kernel), List.mem_of_getElem? (i := 425) (by decide +kernel)⟩
theorem lw_p19 : lw_okq (⟨"WithOneHand", "takesBefore", "(II)I"⟩, 16) := ⟨⟨by decide +kernel, by decide +kernel⟩, List.mem_of_getElem? (i := 16) (by decide +kernel), List.mem_of_getElem? (i := 434) (by decide +kernel), List.mem_of_getElem? (i := 435) (by decide +kernel)⟩
theorem lw_p20 : lw_okq (⟨"WithOneHand", "goesThrough", "(II)Z"⟩, 16) := ⟨⟨by decide +kernel, by decide +kernel⟩, List.mem_of_getElem? (i := 16) (by decide +kernel), List.mem_of_getElem? (i := 438) (by decide +kernel), List.mem_of_getElem? (i := 439) (by decide +kernel)⟩
theorem lw_p21 : lw_okq (⟨"WithOneHand", "takesAtBest", "(II)I"⟩, 16) := ⟨⟨by decide +kernel, by decide +kernel⟩, List.mem_of_getElem? (i := 16) (by decide +kernel), List.mem_of_getElem? (i := 442) (by decide +kernel), List.mem_of_getElem? (i := 443) (by decide +kernel)⟩
theorem lw_p22 : lw_okq (⟨"WithOneHand", "bothCount", "()I"⟩, 16) := ⟨⟨by decide +kernel, by decide +kernel⟩, List.mem_of_getElem? (i := 16) (by decide +kernel), List.mem_of_getElem? (i := 503) (by decide +kernel), List.mem_of_getElem? (i := 504) (by decide +kernel)⟩
theorem lw_p23 : lw_okq (⟨"WithOneHand$Turns", "hardestOutside", "(I)I"⟩, 5) := ⟨⟨by decide +kernel, by decide +kernel⟩, List.mem_of_getElem? (i := 105) (by decide +kernel), List.mem_of_getElem? (i := 526) (by decide +kernel), List.mem_of_getElem? (i := 527) (by decide +kernel)⟩
theorem lw_p24 : lw_okq (⟨"WithOneHand", "timesMore", "(III)I"⟩, 16) := ⟨⟨by decide +kernel, by decide +kernel⟩, List.mem_of_getElem? (i := 16) (by decide +kernel), List.mem_of_getElem? (i := 551) (by decide +kernel), List.mem_of_getElem? (i := 552) (by decide +kernel)⟩
theorem lw_p25 : lw_okq (⟨"WithOneHand", "leastSkill", "(III)I"⟩, 16) := ⟨⟨by decide +kernel, by decide +kernel⟩, List.mem_of_getElem? (i := 16) (by decide +kernel), List.mem_of_getElem? (i := 555) (by decide +kernel), List.mem_of_getElem? (i := 556) (by decide +kernel)⟩
theorem lw_p26 : lw_okq (⟨"WithOneHand", "takesBySkill", "(IIII)I"⟩, 16) := ⟨⟨by decide +kernel, by decide +kernel⟩, List.mem_of_getElem? (i := 16) (by decide +kernel), List.mem_of_getElem? (i := 559) (by decide +kernel), List.mem_of_getElem? (i := 560) (by decide +kernel)⟩
theorem lw_p27 : lw_okq (⟨"WithOneHand", "sortSpots", "()V"⟩, 16) := ⟨⟨by decide +kernel, by decide +kernel⟩, List.mem_of_getElem? (i := 16) (by decide +kernel), List.mem_of_getElem? (i := 568) (by decide +kernel), List.mem_of_getElem? (i := 569) (by decide +kernel)⟩
theorem lw_p28 : lw_okq (⟨"WithOneHand", "isSooner", "(II)Z"⟩, 16) := ⟨⟨by decide +kernel, by decide +kernel⟩, List.mem_of_getElem? (i := 16) (by decide +kernel), List.mem_of_getElem? (i := 572) (by decide +kernel), List.mem_of_getElem? (i := 573) (by decide +kernel)⟩
theorem lw_p29 : lw_okq (⟨"WithOneHand", "meanOfLooking", "(II)J"⟩, 16) := ⟨⟨by decide +kernel, by decide +kernel⟩, List.mem_of_getElem? (i := 16) (by decide +kernel), List.mem_of_getElem? (i := 576) (by decide +kernel), List.mem_of_getElem? (i := 577) (by decide +kernel)⟩
theorem lw_p30 : lw_okq (⟨"WithOneHand", "spotsFrom", "(LWithOneHand$Shelf;)I"⟩, 16) := ⟨⟨by decide +kernel, by decide +kernel⟩, List.mem_of_getElem? (i := 16) (by decide +kernel), List.mem_of_getElem? (i := 584) (by decide +kernel), List.mem_of_getElem? (i := 585) (by decide +kernel)⟩
theorem lw_p31 : lw_okq (⟨"WithOneHand", "takesAlone", "(I)I"⟩, 16) := ⟨⟨by decide +kernel, by decide +kernel⟩, List.mem_of_getElem? (i := 16) (by decide +kernel), List.mem_of_getElem? (i := 597) (by decide +kernel), List.mem_of_getElem? (i := 598) (by decide +kernel)⟩
def lw_privs_2 : List (MethodName × Nat) := [(⟨"WithOneHand", "takesWith", "(IIIII)I"⟩, 16), (⟨"WithOneHand$Law", "pop", "()I"⟩, 9), (⟨"WithOneHand$Law", "push", "(I)V"⟩, 9), (⟨"WithOneHand", "takesBefore", "(II)I"⟩, 16), (⟨"WithOneHand", "goesThrough", "(II)Z"⟩, 16), (⟨"WithOneHand", "takesAtBest", "(II)I"⟩, 16), (⟨"WithOneHand", "bothCount", "()I"⟩, 16), (⟨"WithOneHand$Turns", "hardestOutside", "(I)I"⟩, 5), (⟨"WithOneHand", "timesMore", "(III)I"⟩, 16), (⟨"WithOneHand", "leastSkill", "(III)I"⟩, 16), (⟨"WithOneHand", "takesBySkill", "(IIII)I"⟩, 16), (⟨"WithOneHand", "sortSpots", "()V"⟩, 16), (⟨"WithOneHand", "isSooner", "(II)Z"⟩, 16), (⟨"WithOneHand", "meanOfLooking", "(II)J"⟩, 16), (⟨"WithOneHand", "spotsFrom", "(LWithOneHand$Shelf;)I"⟩, 16), (⟨"WithOneHand", "takesAlone", "(I)I"⟩, 16)]
theorem lw_r2 : ∀ q ∈ lw_privs_2, lw_okq q := List.forall_mem_cons.mpr ⟨lw_p16, List.forall_mem_cons.mpr ⟨lw_p17, List.forall_mem_cons.mpr ⟨lw_p18, List.forall_mem_cons.mpr ⟨lw_p19, List.forall_mem_cons.mpr ⟨lw_p20, List.forall_mem_cons.mpr ⟨lw_p21, List.forall_mem_cons.mpr ⟨lw_p22, List.forall_mem_cons.mpr ⟨lw_p23, List.forall_mem_cons.mpr ⟨lw_p24, List.forall_mem_cons.mpr ⟨lw_p25, List.forall_mem_cons.mpr ⟨lw_p26, List.forall_mem_cons.mpr ⟨lw_p27, List.forall_mem_cons.mpr ⟨lw_p28, List.forall_mem_cons.mpr ⟨lw_p29, List.forall_mem_cons.mpr ⟨lw_p30, List.forall_mem_cons.mpr ⟨lw_p31, fun _ h => absurd h List.not_mem_nil⟩⟩⟩⟩⟩⟩⟩⟩⟩⟩⟩⟩⟩⟩⟩⟩
theorem lw_p32 : lw_okq (⟨"WithOneHand", "takesHelping", "(I)I"⟩, 16) := ⟨⟨by decide +kernel, by decide +kernel⟩, List.mem_of_getElem? (i := 16) (by decide +kernel), List.mem_of_getElem? (i := 601) (by decide +kernel), List.mem_of_getElem? (i := 602) (by decide +kernel)⟩
theorem lw_p33 : lw_okq (⟨"WithOneHand", "firstNotSo", "(LWithOneHand$Shelf;IIII)I"⟩, 16) := ⟨⟨by decide +kernel, by decide +kernel⟩, List.mem_of_getElem? (i := 16) (by decide +kernel), List.mem_of_getElem? (i := 615) (by decide +kernel), List.mem_of_getElem? (i := 616) (by decide +kernel)⟩
theorem lw_p34 : lw_okq (⟨"WithOneHand", "leastStarch", "(LWithOneHand$Shelf;II)I"⟩, 16) := ⟨⟨by decide +kernel, by decide +kernel⟩, List.mem_of_getElem? (i := 16) (by decide +kernel), List.mem_of_getElem? (i := 627) (by decide +kernel), List.mem_of_getElem? (i := 628) (by decide +kernel)⟩
theorem lw_p35 : lw_okq (⟨"WithOneHand", "handsOf", "(LWithOneHand$Shelf;II)I"⟩, 16) := ⟨⟨by decide +kernel, by decide +kernel⟩, List.mem_of_getElem? (i := 16) (by decide +kernel), List.mem_of_getElem? (i := 631) (by decide +kernel), List.mem_of_getElem? (i := 632) (by decide +kernel)⟩
theorem lw_p36 : lw_okq (⟨"WithOneHand$Holes", "own", "(III)I"⟩, 5) := ⟨⟨by decide +kernel, by decide +kernel⟩, List.mem_of_getElem? (i := 120) (by decide +kernel), List.mem_of_getElem? (i := 703) (by decide +kernel), List.mem_of_getElem? (i := 704) (by decide +kernel)⟩
theorem lw_p37 : lw_okq (⟨"WithOneHand$Holes", "runs", "(IIII)I"⟩, 5) := ⟨⟨by decide +kernel, by decide +kernel⟩, List.mem_of_getElem? (i := 120) (by decide +kernel), List.mem_of_getElem? (i := 707) (by decide +kernel), List.mem_of_getElem? (i := 708) (by decide +kernel)⟩
theorem lw_p38 : lw_okq (⟨"WithOneHand$Holes", "note", "(I)V"⟩, 5) := ⟨⟨by decide +kernel, by decide +kernel⟩, List.mem_of_getElem? (i := 120) (by decide +kernel), List.mem_of_getElem? (i := 714) (by decide +kernel), List.mem_of_getElem? (i := 715) (by decide +kernel)⟩
theorem lw_p39 : lw_okq (⟨"WithOneHand$Holes", "ofHole", "(III)I"⟩, 5) := ⟨⟨by decide +kernel, by decide +kernel⟩, List.mem_of_getElem? (i := 120) (by decide +kernel), List.mem_of_getElem? (i := 718) (by decide +kernel), List.mem_of_getElem? (i := 719) (by decide +kernel)⟩
theorem lw_p40 : lw_okq (⟨"WithOneHand$Holes", "ofUnder", "(IIII)I"⟩, 5) := ⟨⟨by decide +kernel, by decide +kernel⟩, List.mem_of_getElem? (i := 120) (by decide +kernel), List.mem_of_getElem? (i := 722) (by decide +kernel), List.mem_of_getElem? (i := 723) (by decide +kernel)⟩
theorem lw_p41 : lw_okq (⟨"WithOneHandModel", "isIn", "(III)Z"⟩, 51) := ⟨⟨by decide +kernel, by decide +kernel⟩, List.mem_of_getElem? (i := 793) (by decide +kernel), List.mem_of_getElem? (i := 957) (by decide +kernel), List.mem_of_getElem? (i := 958) (by decide +kernel)⟩
theorem lw_p42 : lw_okq (⟨"WithOneHandModel", "adds", "(III)I"⟩, 51) := ⟨⟨by decide +kernel, by decide +kernel⟩, List.mem_of_getElem? (i := 793) (by decide +kernel), List.mem_of_getElem? (i := 965) (by decide +kernel), List.mem_of_getElem? (i := 966) (by decide +kernel)⟩
theorem lw_p43 : lw_okq (⟨"WithOneHandModel", "isShelf", "(I)Z"⟩, 51) := ⟨⟨by decide +kernel, by decide +kernel⟩, List.mem_of_getElem? (i := 793) (by decide +kernel), List.mem_of_getElem? (i := 973) (by decide +kernel), List.mem_of_getElem? (i := 974) (by decide +kernel)⟩
theorem lw_p44 : lw_okq (⟨"WithOneHandModel", "intAt", "(II)I"⟩, 51) := ⟨⟨by decide +kernel, by decide +kernel⟩, List.mem_of_getElem? (i := 793) (by decide +kernel), List.mem_of_getElem? (i := 977) (by decide +kernel), List.mem_of_getElem? (i := 978) (by decide +kernel)⟩
theorem lw_p45 : lw_okq (⟨"WithOneHandModel", "isNumber", "(II)Z"⟩, 51) := ⟨⟨by decide +kernel, by decide +kernel⟩, List.mem_of_getElem? (i := 793) (by decide +kernel), List.mem_of_getElem? (i := 989) (by decide +kernel), List.mem_of_getElem? (i := 990) (by decide +kernel)⟩
theorem lw_p46 : lw_okq (⟨"WithOneHandModel", "isLink", "(I)Z"⟩, 51) := ⟨⟨by decide +kernel, by decide +kernel⟩, List.mem_of_getElem? (i := 793) (by decide +kernel), List.mem_of_getElem? (i := 993) (by decide +kernel), List.mem_of_getElem? (i := 994) (by decide +kernel)⟩
theorem lw_p47 : lw_okq (⟨"WithOneHandModel", "isCuff", "(I)Z"⟩, 51) := ⟨⟨by decide +kernel, by decide +kernel⟩, List.mem_of_getElem? (i := 793) (by decide +kernel), List.mem_of_getElem? (i := 997) (by decide +kernel), List.mem_of_getElem? (i := 998) (by decide +kernel)⟩
def lw_privs_3 : List (MethodName × Nat) := [(⟨"WithOneHand", "takesHelping", "(I)I"⟩, 16), (⟨"WithOneHand", "firstNotSo", "(LWithOneHand$Shelf;IIII)I"⟩, 16), (⟨"WithOneHand", "leastStarch", "(LWithOneHand$Shelf;II)I"⟩, 16), (⟨"WithOneHand", "handsOf", "(LWithOneHand$Shelf;II)I"⟩, 16), (⟨"WithOneHand$Holes", "own", "(III)I"⟩, 5), (⟨"WithOneHand$Holes", "runs", "(IIII)I"⟩, 5), (⟨"WithOneHand$Holes", "note", "(I)V"⟩, 5), (⟨"WithOneHand$Holes", "ofHole", "(III)I"⟩, 5), (⟨"WithOneHand$Holes", "ofUnder", "(IIII)I"⟩, 5), (⟨"WithOneHandModel", "isIn", "(III)Z"⟩, 51), (⟨"WithOneHandModel", "adds", "(III)I"⟩, 51), (⟨"WithOneHandModel", "isShelf", "(I)Z"⟩, 51), (⟨"WithOneHandModel", "intAt", "(II)I"⟩, 51), (⟨"WithOneHandModel", "isNumber", "(II)Z"⟩, 51), (⟨"WithOneHandModel", "isLink", "(I)Z"⟩, 51), (⟨"WithOneHandModel", "isCuff", "(I)Z"⟩, 51)]
theorem lw_r3 : ∀ q ∈ lw_privs_3, lw_okq q := List.forall_mem_cons.mpr ⟨lw_p32, List.forall_mem_cons.mpr ⟨lw_p33, List.forall_mem_cons.mpr ⟨lw_p34, List.forall_mem_cons.mpr ⟨lw_p35, List.forall_mem_cons.mpr ⟨lw_p36, List.forall_mem_cons.mpr ⟨lw_p37, List.forall_mem_cons.mpr ⟨lw_p38, List.forall_mem_cons.mpr ⟨lw_p39, List.forall_mem_cons.mpr ⟨lw_p40, List.forall_mem_cons.mpr ⟨lw_p41, List.forall_mem_cons.mpr ⟨lw_p42, List.forall_mem_cons.mpr ⟨lw_p43, List.forall_mem_cons.mpr ⟨lw_p44, List.forall_mem_cons.mpr ⟨lw_p45, List.forall_mem_cons.mpr ⟨lw_p46, List.forall_mem_cons.mpr ⟨lw_p47, fun _ h => absurd h List.not_mem_nil⟩⟩⟩⟩⟩⟩⟩⟩⟩⟩⟩⟩⟩⟩⟩⟩
theorem lw_p48 : lw_okq (⟨"WithOneHandModel", "least", "(I)I"⟩, 51) := ⟨⟨by decide +kernel, by decide +kernel⟩, List.mem_of_getElem? (i := 793) (by decide +kernel), List.mem_of_getElem? (i := 1001) (by decide +kernel), List.mem_of_getElem? (i := 1002) (by decide +kernel)⟩
theorem lw_p49 : lw_okq (⟨"WithOneHandModel", "most", "(I)I"⟩, 51) := ⟨⟨by decide +kernel, by decide +kernel⟩, List.mem_of_getElem? (i := 793) (by decide +kernel), List.mem_of_getElem? (i := 1005) (by decide +kernel), List.mem_of_getElem? (i := 1006) (by decide +kernel)⟩
theorem lw_p50 : lw_okq (⟨"WithOneHandModel", "read", "(II)I"⟩, 51) := ⟨⟨by decide +kernel, by decide +kernel⟩, List.mem_of_getElem? (i := 793) (by decide +kernel), List.mem_of_getElem? (i := 1009) (by decide +kernel), List.mem_of_getElem? (i := 1010) (by decide +kernel)⟩
theorem lw_p51 : lw_okq (⟨"WithOneHandModel", "drops", "()V"⟩, 51) := ⟨⟨by decide +kernel, by decide +kernel⟩, List.mem_of_getElem? (i := 793) (by decide +kernel), List.mem_of_getElem? (i := 1013) (by decide +kernel), List.mem_of_getElem? (i := 1014) (by decide +kernel)⟩
theorem lw_p52 : lw_okq (⟨"WithOneHandModel", "write", "(III)V"⟩, 51) := ⟨⟨by decide +kernel, by decide +kernel⟩, List.mem_of_getElem? (i := 793) (by decide +kernel), List.mem_of_getElem? (i := 1017) (by decide +kernel), List.mem_of_getElem? (i := 1018) (by decide +kernel)⟩
theorem lw_p53 : lw_okq (⟨"WithOneHandModel", "readsLine", "()V"⟩, 51) := ⟨⟨by decide +kernel, by decide +kernel⟩, List.mem_of_getElem? (i := 793) (by decide +kernel), List.mem_of_getElem? (i := 1041) (by decide +kernel), List.mem_of_getElem? (i := 1042) (by decide +kernel)⟩
theorem lw_p54 : lw_okq (⟨"WithOneHandModel", "readsE", "()V"⟩, 51) := ⟨⟨by decide +kernel, by decide +kernel⟩, List.mem_of_getElem? (i := 793) (by decide +kernel), List.mem_of_getElem? (i := 1045) (by decide +kernel), List.mem_of_getElem? (i := 1046) (by decide +kernel)⟩
theorem lw_p55 : lw_okq (⟨"WithOneHandModel", "readsA", "()V"⟩, 51) := ⟨⟨by decide +kernel, by decide +kernel⟩, List.mem_of_getElem? (i := 793) (by decide +kernel), List.mem_of_getElem? (i := 1049) (by decide +kernel), List.mem_of_getElem? (i := 1050) (by decide +kernel)⟩
theorem lw_p56 : lw_okq (⟨"WithOneHandModel", "readsB", "()V"⟩, 51) := ⟨⟨by decide +kernel, by decide +kernel⟩, List.mem_of_getElem? (i := 793) (by decide +kernel), List.mem_of_getElem? (i := 1053) (by decide +kernel), List.mem_of_getElem? (i := 1054) (by decide +kernel)⟩
theorem lw_p57 : lw_okq (⟨"WithOneHandModel", "readsS", "()V"⟩, 51) := ⟨⟨by decide +kernel, by decide +kernel⟩, List.mem_of_getElem? (i := 793) (by decide +kernel), List.mem_of_getElem? (i := 1057) (by decide +kernel), List.mem_of_getElem? (i := 1058) (by decide +kernel)⟩
theorem lw_p58 : lw_okq (⟨"WithOneHandModel", "readsP", "()V"⟩, 51) := ⟨⟨by decide +kernel, by decide +kernel⟩, List.mem_of_getElem? (i := 793) (by decide +kernel), List.mem_of_getElem? (i := 1061) (by decide +kernel), List.mem_of_getElem? (i := 1062) (by decide +kernel)⟩
theorem lw_p59 : lw_okq (⟨"WithOneHandModel", "readsO", "()V"⟩, 51) := ⟨⟨by decide +kernel, by decide +kernel⟩, List.mem_of_getElem? (i := 793) (by decide +kernel), List.mem_of_getElem? (i := 1065) (by decide +kernel), List.mem_of_getElem? (i := 1066) (by decide +kernel)⟩
theorem lw_p60 : lw_okq (⟨"WithOneHandModel", "next", "()I"⟩, 51) := ⟨⟨by decide +kernel, by decide +kernel⟩, List.mem_of_getElem? (i := 793) (by decide +kernel), List.mem_of_getElem? (i := 1069) (by decide +kernel), List.mem_of_getElem? (i := 1070) (by decide +kernel)⟩
theorem lw_p61 : lw_okq (⟨"WithOneHandModel", "isDigit", "(I)Z"⟩, 51) := ⟨⟨by decide +kernel, by decide +kernel⟩, List.mem_of_getElem? (i := 793) (by decide +kernel), List.mem_of_getElem? (i := 1073) (by decide +kernel), List.mem_of_getElem? (i := 1074) (by decide +kernel)⟩
theorem lw_p62 : lw_okq (⟨"WithOneHandModel", "isName", "(I)Z"⟩, 51) := ⟨⟨by decide +kernel, by decide +kernel⟩, List.mem_of_getElem? (i := 793) (by decide +kernel), List.mem_of_getElem? (i := 1077) (by decide +kernel), List.mem_of_getElem? (i := 1078) (by decide +kernel)⟩
theorem lw_p63 : lw_okq (⟨"WithOneHandModel", "isNext", "(C)Z"⟩, 51) := ⟨⟨by decide +kernel, by decide +kernel⟩, List.mem_of_getElem? (i := 793) (by decide +kernel), List.mem_of_getElem? (i := 1081) (by decide +kernel), List.mem_of_getElem? (i := 1082) (by decide +kernel)⟩
def lw_privs_4 : List (MethodName × Nat) := [(⟨"WithOneHandModel", "least", "(I)I"⟩, 51), (⟨"WithOneHandModel", "most", "(I)I"⟩, 51), (⟨"WithOneHandModel", "read", "(II)I"⟩, 51), (⟨"WithOneHandModel", "drops", "()V"⟩, 51), (⟨"WithOneHandModel", "write", "(III)V"⟩, 51), (⟨"WithOneHandModel", "readsLine", "()V"⟩, 51), (⟨"WithOneHandModel", "readsE", "()V"⟩, 51), (⟨"WithOneHandModel", "readsA", "()V"⟩, 51), (⟨"WithOneHandModel", "readsB", "()V"⟩, 51), (⟨"WithOneHandModel", "readsS", "()V"⟩, 51), (⟨"WithOneHandModel", "readsP", "()V"⟩, 51), (⟨"WithOneHandModel", "readsO", "()V"⟩, 51), (⟨"WithOneHandModel", "next", "()I"⟩, 51), (⟨"WithOneHandModel", "isDigit", "(I)Z"⟩, 51), (⟨"WithOneHandModel", "isName", "(I)Z"⟩, 51), (⟨"WithOneHandModel", "isNext", "(C)Z"⟩, 51)]
theorem lw_r4 : ∀ q ∈ lw_privs_4, lw_okq q := List.forall_mem_cons.mpr ⟨lw_p48, List.forall_mem_cons.mpr ⟨lw_p49, List.forall_mem_cons.mpr ⟨lw_p50, List.forall_mem_cons.mpr ⟨lw_p51, List.forall_mem_cons.mpr ⟨lw_p52, List.forall_mem_cons.mpr ⟨lw_p53, List.forall_mem_cons.mpr ⟨lw_p54, List.forall_mem_cons.mpr ⟨lw_p55, List.forall_mem_cons.mpr ⟨lw_p56, List.forall_mem_cons.mpr ⟨lw_p57, List.forall_mem_cons.mpr ⟨lw_p58, List.forall_mem_cons.mpr ⟨lw_p59, List.forall_mem_cons.mpr ⟨lw_p60, List.forall_mem_cons.mpr ⟨lw_p61, List.forall_mem_cons.mpr ⟨lw_p62, List.forall_mem_cons.mpr ⟨lw_p63, fun _ h => absurd h List.not_mem_nil⟩⟩⟩⟩⟩⟩⟩⟩⟩⟩⟩⟩⟩⟩⟩⟩
theorem lw_p64 : lw_okq (⟨"WithOneHandModel", "isPair", "(I)Z"⟩, 51) := ⟨⟨by decide +kernel, by decide +kernel⟩, List.mem_of_getElem? (i := 793) (by decide +kernel), List.mem_of_getElem? (i := 1089) (by decide +kernel), List.mem_of_getElem? (i := 1090) (by decide +kernel)⟩
theorem lw_p65 : lw_okq (⟨"WithOneHandModel", "takesNow", "(II)I"⟩, 51) := ⟨⟨by decide +kernel, by decide +kernel⟩, List.mem_of_getElem? (i := 793) (by decide +kernel), List.mem_of_getElem? (i := 1093) (by decide +kernel), List.mem_of_getElem? (i := 1094) (by decide +kernel)⟩
theorem lw_p66 : lw_okq (⟨"WithOneHandModel", "takes", "(IIII)I"⟩, 51) := ⟨⟨by decide +kernel, by decide +kernel⟩, List.mem_of_getElem? (i := 793) (by decide +kernel), List.mem_of_getElem? (i := 1097) (by decide +kernel), List.mem_of_getElem? (i := 1098) (by decide +kernel)⟩
theorem lw_p67 : lw_okq (⟨"WithOneHandModel", "takesSo", "(IIIII)I"⟩, 51) := ⟨⟨by decide +kernel, by decide +kernel⟩, List.mem_of_getElem? (i := 793) (by decide +kernel), List.mem_of_getElem? (i := 1101) (by decide +kernel), List.mem_of_getElem? (i := 1102) (by decide +kernel)⟩
theorem lw_p68 : lw_okq (⟨"WithOneHandModel", "given", "()I"⟩, 51) := ⟨⟨by decide +kernel, by decide +kernel⟩, List.mem_of_getElem? (i := 793) (by decide +kernel), List.mem_of_getElem? (i := 1105) (by decide +kernel), List.mem_of_getElem? (i := 1106) (by decide +kernel)⟩
theorem lw_p69 : lw_okq (⟨"WithOneHandModel", "takesE", "()I"⟩, 51) := ⟨⟨by decide +kernel, by decide +kernel⟩, List.mem_of_getElem? (i := 793) (by decide +kernel), List.mem_of_getElem? (i := 1109) (by decide +kernel), List.mem_of_getElem? (i := 1110) (by decide +kernel)⟩
theorem lw_p70 : lw_okq (⟨"WithOneHandModel", "takesA", "()I"⟩, 51) := ⟨⟨by decide +kernel, by decide +kernel⟩, List.mem_of_getElem? (i := 793) (by decide +kernel), List.mem_of_getElem? (i := 1113) (by decide +kernel), List.mem_of_getElem? (i := 1114) (by decide +kernel)⟩
theorem lw_p71 : lw_okq (⟨"WithOneHandModel", "takesB", "()I"⟩, 51) := ⟨⟨by decide +kernel, by decide +kernel⟩, List.mem_of_getElem? (i := 793) (by decide +kernel), List.mem_of_getElem? (i := 1117) (by decide +kernel), List.mem_of_getElem? (i := 1118) (by decide +kernel)⟩
theorem lw_p72 : lw_okq (⟨"WithOneHandModel", "takesS", "()I"⟩, 51) := ⟨⟨by decide +kernel, by decide +kernel⟩, List.mem_of_getElem? (i := 793) (by decide +kernel), List.mem_of_getElem? (i := 1121) (by decide +kernel), List.mem_of_getElem? (i := 1122) (by decide +kernel)⟩
theorem lw_p73 : lw_okq (⟨"WithOneHandModel", "takesP", "()I"⟩, 51) := ⟨⟨by decide +kernel, by decide +kernel⟩, List.mem_of_getElem? (i := 793) (by decide +kernel), List.mem_of_getElem? (i := 1125) (by decide +kernel), List.mem_of_getElem? (i := 1126) (by decide +kernel)⟩
theorem lw_p74 : lw_okq (⟨"WithOneHandModel", "takesO", "()I"⟩, 51) := ⟨⟨by decide +kernel, by decide +kernel⟩, List.mem_of_getElem? (i := 793) (by decide +kernel), List.mem_of_getElem? (i := 1129) (by decide +kernel), List.mem_of_getElem? (i := 1130) (by decide +kernel)⟩
theorem lw_p75 : lw_okq (⟨"WithOneHandModel", "seen", "()I"⟩, 51) := ⟨⟨by decide +kernel, by decide +kernel⟩, List.mem_of_getElem? (i := 793) (by decide +kernel), List.mem_of_getElem? (i := 1133) (by decide +kernel), List.mem_of_getElem? (i := 1134) (by decide +kernel)⟩
theorem lw_p76 : lw_okq (⟨"WithOneHandModel", "one", "(Z)I"⟩, 51) := ⟨⟨by decide +kernel, by decide +kernel⟩, List.mem_of_getElem? (i := 793) (by decide +kernel), List.mem_of_getElem? (i := 1137) (by decide +kernel), List.mem_of_getElem? (i := 1138) (by decide +kernel)⟩
theorem lw_p77 : lw_okq (⟨"WithOneHandModel", "isSeen", "(C)Z"⟩, 51) := ⟨⟨by decide +kernel, by decide +kernel⟩, List.mem_of_getElem? (i := 793) (by decide +kernel), List.mem_of_getElem? (i := 1141) (by decide +kernel), List.mem_of_getElem? (i := 1142) (by decide +kernel)⟩
theorem lw_p78 : lw_okq (⟨"WithOneHandModel", "ahead", "(II)I"⟩, 51) := ⟨⟨by decide +kernel, by decide +kernel⟩, List.mem_of_getElem? (i := 793) (by decide +kernel), List.mem_of_getElem? (i := 1145) (by decide +kernel), List.mem_of_getElem? (i := 1146) (by decide +kernel)⟩
theorem lw_p79 : lw_okq (⟨"WithOneHandModel", "goes", "(II)Z"⟩, 51) := ⟨⟨by decide +kernel, by decide +kernel⟩, List.mem_of_getElem? (i := 793) (by decide +kernel), List.mem_of_getElem? (i := 1149) (by decide +kernel), List.mem_of_getElem? (i := 1150) (by decide +kernel)⟩
def lw_privs_5 : List (MethodName × Nat) := [(⟨"WithOneHandModel", "isPair", "(I)Z"⟩, 51), (⟨"WithOneHandModel", "takesNow", "(II)I"⟩, 51), (⟨"WithOneHandModel", "takes", "(IIII)I"⟩, 51), (⟨"WithOneHandModel", "takesSo", "(IIIII)I"⟩, 51), (⟨"WithOneHandModel", "given", "()I"⟩, 51), (⟨"WithOneHandModel", "takesE", "()I"⟩, 51), (⟨"WithOneHandModel", "takesA", "()I"⟩, 51), (⟨"WithOneHandModel", "takesB", "()I"⟩, 51), (⟨"WithOneHandModel", "takesS", "()I"⟩, 51), (⟨"WithOneHandModel", "takesP", "()I"⟩, 51), (⟨"WithOneHandModel", "takesO", "()I"⟩, 51), (⟨"WithOneHandModel", "seen", "()I"⟩, 51), (⟨"WithOneHandModel", "one", "(Z)I"⟩, 51), (⟨"WithOneHandModel", "isSeen", "(C)Z"⟩, 51), (⟨"WithOneHandModel", "ahead", "(II)I"⟩, 51), (⟨"WithOneHandModel", "goes", "(II)Z"⟩, 51)]
theorem lw_r5 : ∀ q ∈ lw_privs_5, lw_okq q := List.forall_mem_cons.mpr ⟨lw_p64, List.forall_mem_cons.mpr ⟨lw_p65, List.forall_mem_cons.mpr ⟨lw_p66, List.forall_mem_cons.mpr ⟨lw_p67, List.forall_mem_cons.mpr ⟨lw_p68, List.forall_mem_cons.mpr ⟨lw_p69, List.forall_mem_cons.mpr ⟨lw_p70, List.forall_mem_cons.mpr ⟨lw_p71, List.forall_mem_cons.mpr ⟨lw_p72, List.forall_mem_cons.mpr ⟨lw_p73, List.forall_mem_cons.mpr ⟨lw_p74, List.forall_mem_cons.mpr ⟨lw_p75, List.forall_mem_cons.mpr ⟨lw_p76, List.forall_mem_cons.mpr ⟨lw_p77, List.forall_mem_cons.mpr ⟨lw_p78, List.forall_mem_cons.mpr ⟨lw_p79, fun _ h => absurd h List.not_mem_nil⟩⟩⟩⟩⟩⟩⟩⟩⟩⟩⟩⟩⟩⟩⟩⟩
theorem lw_p80 : lw_okq (⟨"WithOneHandModel", "pairs", "(IIII)V"⟩, 51) := ⟨⟨by decide +kernel, by decide +kernel⟩, List.mem_of_getElem? (i := 793) (by decide +kernel), List.mem_of_getElem? (i := 1161) (by decide +kernel), List.mem_of_getElem? (i := 1162) (by decide +kernel)⟩
theorem lw_p81 : lw_okq (⟨"WithOneHandModel", "has", "(II)Z"⟩, 51) := ⟨⟨by decide +kernel, by decide +kernel⟩, List.mem_of_getElem? (i := 793) (by decide +kernel), List.mem_of_getElem? (i := 1165) (by decide +kernel), List.mem_of_getElem? (i := 1166) (by decide +kernel)⟩
theorem lw_p82 : lw_okq (⟨"WithOneHandModel", "both", "()I"⟩, 51) := ⟨⟨by decide +kernel, by decide +kernel⟩, List.mem_of_getElem? (i := 793) (by decide +kernel), List.mem_of_getElem? (i := 1173) (by decide +kernel), List.mem_of_getElem? (i := 1174) (by decide +kernel)⟩
theorem lw_p83 : lw_okq (⟨"WithOneHandModel", "orders", "(IIIIII)V"⟩, 51) := ⟨⟨by decide +kernel, by decide +kernel⟩, List.mem_of_getElem? (i := 793) (by decide +kernel), List.mem_of_getElem? (i := 1177) (by decide +kernel), List.mem_of_getElem? (i := 1178) (by decide +kernel)⟩
theorem lw_p84 : lw_okq (⟨"WithOneHandModel", "hardFirst", "(I)I"⟩, 51) := ⟨⟨by decide +kernel, by decide +kernel⟩, List.mem_of_getElem? (i := 793) (by decide +kernel), List.mem_of_getElem? (i := 1181) (by decide +kernel), List.mem_of_getElem? (i := 1182) (by decide +kernel)⟩
theorem lw_p85 : lw_okq (⟨"WithOneHandModel", "lowest", "(JJI)J"⟩, 51) := ⟨⟨by decide +kernel, by decide +kernel⟩, List.mem_of_getElem? (i := 793) (by decide +kernel), List.mem_of_getElem? (i := 1191) (by decide +kernel), List.mem_of_getElem? (i := 1192) (by decide +kernel)⟩
theorem lw_p86 : lw_okq (⟨"WithOneHandModel", "common", "(JJ)J"⟩, 51) := ⟨⟨by decide +kernel, by decide +kernel⟩, List.mem_of_getElem? (i := 793) (by decide +kernel), List.mem_of_getElem? (i := 1195) (by decide +kernel), List.mem_of_getElem? (i := 1196) (by decide +kernel)⟩
theorem lw_p87 : lw_okq (⟨"WithOneHandModel", "nextSpot", "(I)I"⟩, 51) := ⟨⟨by decide +kernel, by decide +kernel⟩, List.mem_of_getElem? (i := 793) (by decide +kernel), List.mem_of_getElem? (i := 1212) (by decide +kernel), List.mem_of_getElem? (i := 1213) (by decide +kernel)⟩
theorem lw_p88 : lw_okq (⟨"WithOneHandModel", "alone", "(I)I"⟩, 51) := ⟨⟨by decide +kernel, by decide +kernel⟩, List.mem_of_getElem? (i := 793) (by decide +kernel), List.mem_of_getElem? (i := 1230) (by decide +kernel), List.mem_of_getElem? (i := 1231) (by decide +kernel)⟩
theorem lw_p89 : lw_okq (⟨"WithOneHandModel", "helping", "(I)I"⟩, 51) := ⟨⟨by decide +kernel, by decide +kernel⟩, List.mem_of_getElem? (i := 793) (by decide +kernel), List.mem_of_getElem? (i := 1234) (by decide +kernel), List.mem_of_getElem? (i := 1235) (by decide +kernel)⟩
theorem lw_p90 : lw_okq (⟨"WithOneHandModel", "barsOf", "(I)I"⟩, 51) := ⟨⟨by decide +kernel, by decide +kernel⟩, List.mem_of_getElem? (i := 793) (by decide +kernel), List.mem_of_getElem? (i := 1242) (by decide +kernel), List.mem_of_getElem? (i := 1243) (by decide +kernel)⟩
theorem lw_p91 : lw_okq (⟨"WithOneHandModel", "unlike", "(IIIII)I"⟩, 51) := ⟨⟨by decide +kernel, by decide +kernel⟩, List.mem_of_getElem? (i := 793) (by decide +kernel), List.mem_of_getElem? (i := 1246) (by decide +kernel), List.mem_of_getElem? (i := 1247) (by decide +kernel)⟩
theorem lw_p92 : lw_okq (⟨"WithOneHandModel", "isUsed", "(I)Z"⟩, 51) := ⟨⟨by decide +kernel, by decide +kernel⟩, List.mem_of_getElem? (i := 793) (by decide +kernel), List.mem_of_getElem? (i := 1267) (by decide +kernel), List.mem_of_getElem? (i := 1268) (by decide +kernel)⟩
theorem lw_p93 : lw_okq (⟨"WithOneHandModel", "rings", "(III)I"⟩, 51) := ⟨⟨by decide +kernel, by decide +kernel⟩, List.mem_of_getElem? (i := 793) (by decide +kernel), List.mem_of_getElem? (i := 1299) (by decide +kernel), List.mem_of_getElem? (i := 1300) (by decide +kernel)⟩
theorem lw_p94 : lw_okq (⟨"WithOneHandModel", "runs", "(I)V"⟩, 51) := ⟨⟨by decide +kernel, by decide +kernel⟩, List.mem_of_getElem? (i := 793) (by decide +kernel), List.mem_of_getElem? (i := 1303) (by decide +kernel), List.mem_of_getElem? (i := 1304) (by decide +kernel)⟩
theorem lw_p95 : lw_okq (⟨"WithOneHandModel", "above", "(I)I"⟩, 51) := ⟨⟨by decide +kernel, by decide +kernel⟩, List.mem_of_getElem? (i := 793) (by decide +kernel), List.mem_of_getElem? (i := 1307) (by decide +kernel), List.mem_of_getElem? (i := 1308) (by decide +kernel)⟩
def lw_privs_6 : List (MethodName × Nat) := [(⟨"WithOneHandModel", "pairs", "(IIII)V"⟩, 51), (⟨"WithOneHandModel", "has", "(II)Z"⟩, 51), (⟨"WithOneHandModel", "both", "()I"⟩, 51), (⟨"WithOneHandModel", "orders", "(IIIIII)V"⟩, 51), (⟨"WithOneHandModel", "hardFirst", "(I)I"⟩, 51), (⟨"WithOneHandModel", "lowest", "(JJI)J"⟩, 51), (⟨"WithOneHandModel", "common", "(JJ)J"⟩, 51), (⟨"WithOneHandModel", "nextSpot", "(I)I"⟩, 51), (⟨"WithOneHandModel", "alone", "(I)I"⟩, 51), (⟨"WithOneHandModel", "helping", "(I)I"⟩, 51), (⟨"WithOneHandModel", "barsOf", "(I)I"⟩, 51), (⟨"WithOneHandModel", "unlike", "(IIIII)I"⟩, 51), (⟨"WithOneHandModel", "isUsed", "(I)Z"⟩, 51), (⟨"WithOneHandModel", "rings", "(III)I"⟩, 51), (⟨"WithOneHandModel", "runs", "(I)V"⟩, 51), (⟨"WithOneHandModel", "above", "(I)I"⟩, 51)]
theorem lw_r6 : ∀ q ∈ lw_privs_6, lw_okq q := List.forall_mem_cons.mpr ⟨lw_p80, List.forall_mem_cons.mpr ⟨lw_p81, List.forall_mem_cons.mpr ⟨lw_p82, List.forall_mem_cons.mpr ⟨lw_p83, List.forall_mem_cons.mpr ⟨lw_p84, List.forall_mem_cons.mpr ⟨lw_p85, List.forall_mem_cons.mpr ⟨lw_p86, List.forall_mem_cons.mpr ⟨lw_p87, List.forall_mem_cons.mpr ⟨lw_p88, List.forall_mem_cons.mpr ⟨lw_p89, List.forall_mem_cons.mpr ⟨lw_p90, List.forall_mem_cons.mpr ⟨lw_p91, List.forall_mem_cons.mpr ⟨lw_p92, List.forall_mem_cons.mpr ⟨lw_p93, List.forall_mem_cons.mpr ⟨lw_p94, List.forall_mem_cons.mpr ⟨lw_p95, fun _ h => absurd h List.not_mem_nil⟩⟩⟩⟩⟩⟩⟩⟩⟩⟩⟩⟩⟩⟩⟩⟩
theorem lw_p96 : lw_okq (⟨"WithOneHandModel", "hears", "(III)I"⟩, 51) := ⟨⟨by decide +kernel, by decide +kernel⟩, List.mem_of_getElem? (i := 793) (by decide +kernel), List.mem_of_getElem? (i := 1311) (by decide +kernel), List.mem_of_getElem? (i := 1312) (by decide +kernel)⟩
theorem lw_p97 : lw_okq (⟨"WithOneHandModel", "doing", "(III)I"⟩, 51) := ⟨⟨by decide +kernel, by decide +kernel⟩, List.mem_of_getElem? (i := 793) (by decide +kernel), List.mem_of_getElem? (i := 1315) (by decide +kernel), List.mem_of_getElem? (i := 1316) (by decide +kernel)⟩
theorem lw_p98 : lw_okq (⟨"WithOneHandModel", "tells", "(III)I"⟩, 51) := ⟨⟨by decide +kernel, by decide +kernel⟩, List.mem_of_getElem? (i := 793) (by decide +kernel), List.mem_of_getElem? (i := 1319) (by decide +kernel), List.mem_of_getElem? (i := 1320) (by decide +kernel)⟩
theorem lw_p99 : lw_okq (⟨"WithOneHandModel", "barsOfRow", "(I)I"⟩, 51) := ⟨⟨by decide +kernel, by decide +kernel⟩, List.mem_of_getElem? (i := 793) (by decide +kernel), List.mem_of_getElem? (i := 1339) (by decide +kernel), List.mem_of_getElem? (i := 1340) (by decide +kernel)⟩
theorem lw_p100 : lw_okq (⟨"WithOneHandModel", "isElement", "(II)Z"⟩, 51) := ⟨⟨by decide +kernel, by decide +kernel⟩, List.mem_of_getElem? (i := 793) (by decide +kernel), List.mem_of_getElem? (i := 1343) (by decide +kernel), List.mem_of_getElem? (i := 1344) (by decide +kernel)⟩
def lw_privs_7 : List (MethodName × Nat) := [(⟨"WithOneHandModel", "hears", "(III)I"⟩, 51), (⟨"WithOneHandModel", "doing", "(III)I"⟩, 51), (⟨"WithOneHandModel", "tells", "(III)I"⟩, 51), (⟨"WithOneHandModel", "barsOfRow", "(I)I"⟩, 51), (⟨"WithOneHandModel", "isElement", "(II)Z"⟩, 51)]
theorem lw_r7 : ∀ q ∈ lw_privs_7, lw_okq q := List.forall_mem_cons.mpr ⟨lw_p96, List.forall_mem_cons.mpr ⟨lw_p97, List.forall_mem_cons.mpr ⟨lw_p98, List.forall_mem_cons.mpr ⟨lw_p99, List.forall_mem_cons.mpr ⟨lw_p100, fun _ h => absurd h List.not_mem_nil⟩⟩⟩⟩⟩
def lw_privs : List (MethodName × Nat) := lw_privs_1 ++ (lw_privs_2 ++ (lw_privs_3 ++ (lw_privs_4 ++ (lw_privs_5 ++ (lw_privs_6 ++ (lw_privs_7))))))
def lw_tbl : List Cond := k2_sels lw_privs ++ tables_1
theorem lw_privs_ok : ∀ q ∈ lw_privs, lw_okq q := by
  show ∀ q ∈ lw_privs_1 ++ (lw_privs_2 ++ (lw_privs_3 ++ (lw_privs_4 ++ (lw_privs_5 ++ (lw_privs_6 ++ (lw_privs_7)))))), lw_okq q
  exact List.forall_mem_append.mpr ⟨lw_r1, List.forall_mem_append.mpr ⟨lw_r2, List.forall_mem_append.mpr ⟨lw_r3, List.forall_mem_append.mpr ⟨lw_r4, List.forall_mem_append.mpr ⟨lw_r5, List.forall_mem_append.mpr ⟨lw_r6, lw_r7⟩⟩⟩⟩⟩⟩
def RX0 : String := "WithOneHand$Deeds"
def TX0 : u_T := fun k => match k with
  | 0 => ("WithOneHand$Deeds", "linkIn", "[I", true)
  | _ => ("WithOneHand$Deeds", "ledger", "[I", true)
def tyX0 : Nat → FieldType := fun k => match k with
  | 0 => .array .int
  | _ => .array .int
abbrev wsX00 : List Cond := u_ws RX0 TX0 2
theorem nmX0 : ∀ a, a < 2 → ∀ b, b < 2 → a ≠ b → (TX0 a).2.1 ≠ (TX0 b).2.1 := by decide +kernel
theorem tyX0_ok : ∀ k, k < 2 → parseFieldDescriptor (TX0 k).2.2.1 = some (tyX0 k) := by decide +kernel
abbrev cX0_init : ByteArray := prog_2_method_1_code
def yX0_init : MethodName := ⟨RX0, "<init>", "()V"⟩
abbrev cX0_isIn : ByteArray := prog_2_method_2_code
def yX0_isIn : MethodName := ⟨RX0, "isIn", "(I)Z"⟩
abbrev cX0_takeAllOut : ByteArray := prog_2_method_3_code
def yX0_takeAllOut : MethodName := ⟨RX0, "takeAllOut", "()I"⟩
abbrev cX0_becomeLike : ByteArray := prog_2_method_4_code
def yX0_becomeLike : MethodName := ⟨RX0, "becomeLike", "(LWithOneHand$Deeds;)V"⟩
def RX1 : String := "WithOneHand$History"
def TX1 : u_T := fun k => match k with
  | 0 => ("WithOneHand$History", "number", "[I", true)
  | 1 => ("WithOneHand$History", "what", "[I", true)
  | 2 => ("WithOneHand$History", "was", "[I", true)
  | 3 => ("WithOneHand$History", "became", "[I", true)
  | 4 => ("WithOneHand$History", "made", "I", false)
  | _ => ("WithOneHand$History", "undone", "I", false)
def tyX1 : Nat → FieldType := fun k => match k with
  | 0 => .array .int
  | 1 => .array .int
  | 2 => .array .int
  | 3 => .array .int
  | 4 => .int
  | _ => .int
abbrev wsX10 : List Cond := u_ws RX1 TX1 6
theorem nmX1 : ∀ a, a < 6 → ∀ b, b < 6 → a ≠ b → (TX1 a).2.1 ≠ (TX1 b).2.1 := by decide +kernel
theorem tyX1_ok : ∀ k, k < 6 → parseFieldDescriptor (TX1 k).2.2.1 = some (tyX1 k) := by decide +kernel
abbrev cX1_init : ByteArray := prog_3_method_1_code
def yX1_init : MethodName := ⟨RX1, "<init>", "()V"⟩
abbrev cX1_note : ByteArray := prog_3_method_2_code
def yX1_note : MethodName := ⟨RX1, "note", "(IIII)V"⟩
abbrev cX1_forgetOldest : ByteArray := prog_3_method_3_code
def yX1_forgetOldest : MethodName := ⟨RX1, "forgetOldest", "()V"⟩
def RX2 : String := "WithOneHand$Holes"
def TX2 : u_T := fun k => match k with
  | 0 => ("WithOneHand$Holes", "kinds", "[I", true)
  | 1 => ("WithOneHand$Holes", "traced", "[I", true)
  | 2 => ("WithOneHand$Holes", "many", "I", false)
  | 3 => ("WithOneHand$Holes", "ran", "I", false)
  | _ => ("WithOneHand$Holes", "acting", "I", false)
def tyX2 : Nat → FieldType := fun k => match k with
  | 0 => .array .int
  | 1 => .array .int
  | 2 => .int
  | 3 => .int
  | _ => .int
abbrev wsX20 : List Cond := u_ws RX2 TX2 5
theorem nmX2 : ∀ a, a < 5 → ∀ b, b < 5 → a ≠ b → (TX2 a).2.1 ≠ (TX2 b).2.1 := by decide +kernel
theorem tyX2_ok : ∀ k, k < 5 → parseFieldDescriptor (TX2 k).2.2.1 = some (tyX2 k) := by decide +kernel
abbrev cX2_init : ByteArray := prog_4_method_1_code
def yX2_init : MethodName := ⟨RX2, "<init>", "()V"⟩
abbrev cX2_isKind : ByteArray := prog_4_method_2_code
def yX2_isKind : MethodName := ⟨RX2, "isKind", "(I)Z"⟩
abbrev cX2_isUnder : ByteArray := prog_4_method_3_code
def yX2_isUnder : MethodName := ⟨RX2, "isUnder", "(II)Z"⟩
abbrev cX2_acts : ByteArray := prog_4_method_4_code
def yX2_acts : MethodName := ⟨RX2, "acts", "(III)I"⟩
abbrev cX2_note : ByteArray := prog_4_method_5_code
def yX2_note : MethodName := ⟨RX2, "note", "(I)V"⟩
abbrev cX2_own : ByteArray := prog_4_method_6_code
def yX2_own : MethodName := ⟨RX2, "own", "(III)I"⟩
abbrev cX2_runs : ByteArray := prog_4_method_7_code
def yX2_runs : MethodName := ⟨RX2, "runs", "(IIII)I"⟩
abbrev cX2_ofHole : ByteArray := prog_4_method_8_code
def yX2_ofHole : MethodName := ⟨RX2, "ofHole", "(III)I"⟩
abbrev cX2_ofUnder : ByteArray := prog_4_method_9_code
def yX2_ofUnder : MethodName := ⟨RX2, "ofUnder", "(IIII)I"⟩
def RX3 : String := "WithOneHand$Law"
def TX3 : u_T := fun k => match k with
  | 0 => ("WithOneHand$Law", "steps", "[I", true)
  | 1 => ("WithOneHand$Law", "operands", "[I", true)
  | 2 => ("WithOneHand$Law", "stack", "[I", true)
  | 3 => ("WithOneHand$Law", "named", "[I", true)
  | 4 => ("WithOneHand$Law", "size", "I", false)
  | 5 => ("WithOneHand$Law", "top", "I", false)
  | 6 => ("WithOneHand$Law", "place", "I", false)
  | 7 => ("WithOneHand$Law", "text", "[I", true)
  | _ => ("WithOneHand$Law", "length", "I", false)
def tyX3 : Nat → FieldType := fun k => match k with
  | 0 => .array .int
  | 1 => .array .int
  | 2 => .array .int
  | 3 => .array .int
  | 4 => .int
  | 5 => .int
  | 6 => .int
  | 7 => .array .int
  | _ => .int
abbrev wsX30 : List Cond := u_ws RX3 TX3 9
theorem nmX3 : ∀ a, a < 9 → ∀ b, b < 9 → a ≠ b → (TX3 a).2.1 ≠ (TX3 b).2.1 := by decide +kernel
theorem tyX3_ok : ∀ k, k < 9 → parseFieldDescriptor (TX3 k).2.2.1 = some (tyX3 k) := by decide +kernel
abbrev cX3_init : ByteArray := prog_5_method_1_code
def yX3_init : MethodName := ⟨RX3, "<init>", "()V"⟩
abbrev cX3_isTold : ByteArray := prog_5_method_2_code
def yX3_isTold : MethodName := ⟨RX3, "isTold", "()Z"⟩
abbrev cX3_faultOfText : ByteArray := prog_5_method_3_code
def yX3_faultOfText : MethodName := ⟨RX3, "faultOfText", "()I"⟩
abbrev cX3_here : ByteArray := prog_5_method_4_code
def yX3_here : MethodName := ⟨RX3, "here", "()I"⟩
abbrev cX3_add : ByteArray := prog_5_method_5_code
def yX3_add : MethodName := ⟨RX3, "add", "(II)V"⟩
abbrev cX3_readsLine : ByteArray := prog_5_method_6_code
def yX3_readsLine : MethodName := ⟨RX3, "readsLine", "()Z"⟩
abbrev cX3_levelOf : ByteArray := prog_5_method_7_code
def yX3_levelOf : MethodName := ⟨RX3, "levelOf", "(I)I"⟩
abbrev cX3_readsPart : ByteArray := prog_5_method_8_code
def yX3_readsPart : MethodName := ⟨RX3, "readsPart", "(II)Z"⟩
abbrev cX3_readsOperand : ByteArray := prog_5_method_9_code
def yX3_readsOperand : MethodName := ⟨RX3, "readsOperand", "(I)Z"⟩
abbrev cX3_closes : ByteArray := prog_5_method_10_code
def yX3_closes : MethodName := ⟨RX3, "closes", "()Z"⟩
abbrev cX3_isDigit : ByteArray := prog_5_method_11_code
def yX3_isDigit : MethodName := ⟨RX3, "isDigit", "(I)Z"⟩
abbrev cX3_readsNumber : ByteArray := prog_5_method_12_code
def yX3_readsNumber : MethodName := ⟨RX3, "readsNumber", "()Z"⟩
abbrev cX3_nameOf : ByteArray := prog_5_method_13_code
def yX3_nameOf : MethodName := ⟨RX3, "nameOf", "(I)I"⟩
abbrev cX3_name : ByteArray := prog_5_method_14_code
def yX3_name : MethodName := ⟨RX3, "name", "(IIIIII)V"⟩
abbrev cX3_push : ByteArray := prog_5_method_15_code
def yX3_push : MethodName := ⟨RX3, "push", "(I)V"⟩
abbrev cX3_pop : ByteArray := prog_5_method_16_code
def yX3_pop : MethodName := ⟨RX3, "pop", "()I"⟩
abbrev cX3_workedOut : ByteArray := prog_5_method_17_code
def yX3_workedOut : MethodName := ⟨RX3, "workedOut", "()I"⟩
abbrev cX3_joined : ByteArray := prog_5_method_18_code
def yX3_joined : MethodName := ⟨RX3, "joined", "(III)I"⟩
def RX4 : String := "WithOneHand$Pairs"
def TX4 : u_T := fun k => match k with
  | 0 => ("WithOneHand$Plan", "takes", "[[I", true)
  | 1 => ("WithOneHand$Plan", "least", "[I", true)
  | 2 => ("WithOneHand$Plan", "items", "I", false)
  | _ => ("WithOneHand$Plan", "choices", "I", false)
def tyX4 : Nat → FieldType := fun k => match k with
  | 0 => .array (.array .int)
  | 1 => .array .int
  | 2 => .int
  | _ => .int
abbrev wsX40 : List Cond := u_ws RX4 TX4 4
theorem nmX4 : ∀ a, a < 4 → ∀ b, b < 4 → a ≠ b → (TX4 a).2.1 ≠ (TX4 b).2.1 := by decide +kernel
theorem tyX4_ok : ∀ k, k < 4 → parseFieldDescriptor (TX4 k).2.2.1 = some (tyX4 k) := by decide +kernel
abbrev cX4_init : ByteArray := prog_6_method_1_code
def yX4_init : MethodName := ⟨RX4, "<init>", "()V"⟩
abbrev cX4_takesBehind : ByteArray := prog_6_method_2_code
def yX4_takesBehind : MethodName := ⟨RX4, "takesBehind", "(II)I"⟩
def RX5 : String := "WithOneHand$Plan"
def TX5 : u_T := fun k => match k with
  | _ => ("", "", "", false)
def tyX5 : Nat → FieldType := fun k => match k with
  | _ => .int
abbrev wsX50 : List Cond := u_ws RX5 TX5 0
theorem nmX5 : ∀ a, a < 0 → ∀ b, b < 0 → a ≠ b → (TX5 a).2.1 ≠ (TX5 b).2.1 := by decide +kernel
theorem tyX5_ok : ∀ k, k < 0 → parseFieldDescriptor (TX5 k).2.2.1 = some (tyX5 k) := by decide +kernel
abbrev cX5_init : ByteArray := prog_7_method_1_code
def yX5_init : MethodName := ⟨RX5, "<init>", "()V"⟩
abbrev cX5_workOut : ByteArray := prog_7_method_3_code
def yX5_workOut : MethodName := ⟨RX5, "workOut", "(II)V"⟩
abbrev cX5_leastSum : ByteArray := prog_7_method_4_code
def yX5_leastSum : MethodName := ⟨RX5, "leastSum", "()I"⟩
abbrev cX5_manyItems : ByteArray := prog_7_method_5_code
def yX5_manyItems : MethodName := ⟨RX5, "manyItems", "()I"⟩
abbrev cX5_chosen : ByteArray := prog_7_method_6_code
def yX5_chosen : MethodName := ⟨RX5, "chosen", "(I)I"⟩
abbrev cX5_sumWith : ByteArray := prog_7_method_7_code
def yX5_sumWith : MethodName := ⟨RX5, "sumWith", "(II)I"⟩
abbrev cX5_firstBest : ByteArray := prog_7_method_8_code
def yX5_firstBest : MethodName := ⟨RX5, "firstBest", "(I)I"⟩
def RX6 : String := "WithOneHand$Shelf"
def TX6 : u_T := fun k => match k with
  | 0 => ("WithOneHand$Shelf", "elements", "[J", true)
  | 1 => ("WithOneHand$Shelf", "sort", "I", false)
  | 2 => ("WithOneHand$Shelf", "size", "I", false)
  | _ => ("WithOneHand$Shelf", "hole", "I", false)
def tyX6 : Nat → FieldType := fun k => match k with
  | 0 => .array .long
  | 1 => .int
  | 2 => .int
  | _ => .int
abbrev wsX60 : List Cond := u_ws RX6 TX6 4
theorem nmX6 : ∀ a, a < 4 → ∀ b, b < 4 → a ≠ b → (TX6 a).2.1 ≠ (TX6 b).2.1 := by decide +kernel
theorem tyX6_ok : ∀ k, k < 4 → parseFieldDescriptor (TX6 k).2.2.1 = some (tyX6 k) := by decide +kernel
abbrev cX6_init : ByteArray := prog_8_method_1_code
def yX6_init : MethodName := ⟨RX6, "<init>", "()V"⟩
abbrev cX6_isSort : ByteArray := prog_8_method_2_code
def yX6_isSort : MethodName := ⟨RX6, "isSort", "(I)Z"⟩
abbrev cX6_holdsNothing : ByteArray := prog_8_method_3_code
def yX6_holdsNothing : MethodName := ⟨RX6, "holdsNothing", "()Z"⟩
abbrev cX6_holdsRow : ByteArray := prog_8_method_4_code
def yX6_holdsRow : MethodName := ⟨RX6, "holdsRow", "()Z"⟩
abbrev cX6_holdsRowOf : ByteArray := prog_8_method_5_code
def yX6_holdsRowOf : MethodName := ⟨RX6, "holdsRowOf", "(I)Z"⟩
abbrev cX6_refusalAsRow : ByteArray := prog_8_method_6_code
def yX6_refusalAsRow : MethodName := ⟨RX6, "refusalAsRow", "()I"⟩
abbrev cX6_refusalAs : ByteArray := prog_8_method_7_code
def yX6_refusalAs : MethodName := ⟨RX6, "refusalAs", "(I)I"⟩
abbrev cX6_hasPlaces : ByteArray := prog_8_method_8_code
def yX6_hasPlaces : MethodName := ⟨RX6, "hasPlaces", "(II)Z"⟩
abbrev cX6_holdNothing : ByteArray := prog_8_method_9_code
def yX6_holdNothing : MethodName := ⟨RX6, "holdNothing", "()V"⟩
abbrev cX6_holdHole : ByteArray := prog_8_method_10_code
def yX6_holdHole : MethodName := ⟨RX6, "holdHole", "(I)V"⟩
abbrev cX6_holdRow : ByteArray := prog_8_method_11_code
def yX6_holdRow : MethodName := ⟨RX6, "holdRow", "(II)V"⟩
abbrev cX6_lowestBits : ByteArray := prog_8_method_12_code
def yX6_lowestBits : MethodName := ⟨RX6, "lowestBits", "(J)J"⟩
def RX7 : String := "WithOneHand$Turns"
def TX7 : u_T := fun k => match k with
  | 0 => ("WithOneHand$Plan", "takes", "[[I", true)
  | 1 => ("WithOneHand$Plan", "least", "[I", true)
  | 2 => ("WithOneHand$Plan", "items", "I", false)
  | 3 => ("WithOneHand$Plan", "choices", "I", false)
  | _ => ("WithOneHand$Turns", "hands", "[I", true)
def tyX7 : Nat → FieldType := fun k => match k with
  | 0 => .array (.array .int)
  | 1 => .array .int
  | 2 => .int
  | 3 => .int
  | _ => .array .int
abbrev wsX70 : List Cond := u_ws RX7 TX7 5
theorem nmX7 : ∀ a, a < 5 → ∀ b, b < 5 → a ≠ b → (TX7 a).2.1 ≠ (TX7 b).2.1 := by decide +kernel
theorem tyX7_ok : ∀ k, k < 5 → parseFieldDescriptor (TX7 k).2.2.1 = some (tyX7 k) := by decide +kernel
abbrev cX7_init : ByteArray := prog_9_method_1_code
def yX7_init : MethodName := ⟨RX7, "<init>", "()V"⟩
abbrev cX7_takesBehind : ByteArray := prog_9_method_2_code
def yX7_takesBehind : MethodName := ⟨RX7, "takesBehind", "(II)I"⟩
abbrev cX7_sumOfHardFirst : ByteArray := prog_9_method_3_code
def yX7_sumOfHardFirst : MethodName := ⟨RX7, "sumOfHardFirst", "()I"⟩
abbrev cX7_hardestOutside : ByteArray := prog_9_method_4_code
def yX7_hardestOutside : MethodName := ⟨RX7, "hardestOutside", "(I)I"⟩
def RX8 : String := "WithOneHand"
def TX8 : u_T := fun k => match k with
  | 0 => ("WithOneHand", "numbers", "[[I", true)
  | 1 => ("WithOneHand", "history", "LWithOneHand$History;", true)
  | 2 => ("WithOneHand", "deeds", "LWithOneHand$Deeds;", true)
  | 3 => ("WithOneHand", "kept", "LWithOneHand$Deeds;", true)
  | 4 => ("WithOneHand", "keptDone", "[I", true)
  | 5 => ("WithOneHand", "pairs", "LWithOneHand$Pairs;", true)
  | 6 => ("WithOneHand", "turns", "LWithOneHand$Turns;", true)
  | 7 => ("WithOneHand", "holes", "LWithOneHand$Holes;", true)
  | 8 => ("WithOneHand", "shelves", "[LWithOneHand$Shelf;", true)
  | 9 => ("WithOneHand", "looked", "[I", true)
  | 10 => ("WithOneHand", "ruling", "LWithOneHand$Law;", false)
  | 11 => ("WithOneHand", "coming", "LWithOneHand$Law;", false)
  | 12 => ("WithOneHand", "linkCount", "I", false)
  | 13 => ("WithOneHand", "cuffCount", "I", false)
  | 14 => ("WithOneHand", "spotCount", "I", false)
  | _ => ("WithOneHand", "isKept", "Z", false)
def tyX8 : Nat → FieldType := fun k => match k with
  | 0 => .array (.array .int)
  | 1 => .object "WithOneHand$History"
  | 2 => .object "WithOneHand$Deeds"
  | 3 => .object "WithOneHand$Deeds"
  | 4 => .array .int
  | 5 => .object "WithOneHand$Pairs"
  | 6 => .object "WithOneHand$Turns"
  | 7 => .object "WithOneHand$Holes"
  | 8 => .array (.object "WithOneHand$Shelf")
  | 9 => .array .int
  | 10 => .object "WithOneHand$Law"
  | 11 => .object "WithOneHand$Law"
  | 12 => .int
  | 13 => .int
  | 14 => .int
  | _ => .boolean
abbrev wsX80 : List Cond := u_ws RX8 TX8 16
theorem nmX8 : ∀ a, a < 16 → ∀ b, b < 16 → a ≠ b → (TX8 a).2.1 ≠ (TX8 b).2.1 := by decide +kernel
theorem tyX8_ok : ∀ k, k < 16 → parseFieldDescriptor (TX8 k).2.2.1 = some (tyX8 k) := by decide +kernel
abbrev cX8_init : ByteArray := prog_1_method_1_code
def yX8_init : MethodName := ⟨RX8, "<init>", "()V"⟩
abbrev cX8_link : ByteArray := prog_1_method_2_code
def yX8_link : MethodName := ⟨RX8, "link", "(II)I"⟩
abbrev cX8_cuff : ByteArray := prog_1_method_3_code
def yX8_cuff : MethodName := ⟨RX8, "cuff", "(II)I"⟩
abbrev cX8_cuffs : ByteArray := prog_1_method_4_code
def yX8_cuffs : MethodName := ⟨RX8, "cuffs", "(III)I"⟩
abbrev cX8_spot : ByteArray := prog_1_method_5_code
def yX8_spot : MethodName := ⟨RX8, "spot", "(II)I"⟩
abbrev cX8_mend : ByteArray := prog_1_method_6_code
def yX8_mend : MethodName := ⟨RX8, "mend", "(III)I"⟩
abbrev cX8_of : ByteArray := prog_1_method_7_code
def yX8_of : MethodName := ⟨RX8, "of", "(II)I"⟩
abbrev cX8_feed : ByteArray := prog_1_method_8_code
def yX8_feed : MethodName := ⟨RX8, "feed", "(I)I"⟩
abbrev cX8_law : ByteArray := prog_1_method_9_code
def yX8_law : MethodName := ⟨RX8, "law", "()I"⟩
abbrev cX8_seconds : ByteArray := prog_1_method_10_code
def yX8_seconds : MethodName := ⟨RX8, "seconds", "(II)I"⟩
abbrev cX8_best : ByteArray := prog_1_method_11_code
def yX8_best : MethodName := ⟨RX8, "best", "(I)I"⟩
abbrev cX8_paired : ByteArray := prog_1_method_12_code
def yX8_paired : MethodName := ⟨RX8, "paired", "(II)I"⟩
abbrev cX8_order : ByteArray := prog_1_method_13_code
def yX8_order : MethodName := ⟨RX8, "order", "(I)I"⟩
abbrev cX8_dropped : ByteArray := prog_1_method_14_code
def yX8_dropped : MethodName := ⟨RX8, "dropped", "(II)J"⟩
abbrev cX8_by : ByteArray := prog_1_method_15_code
def yX8_by : MethodName := ⟨RX8, "by", "(III)J"⟩
abbrev cX8_practice : ByteArray := prog_1_method_16_code
def yX8_practice : MethodName := ⟨RX8, "practice", "(III)I"⟩
abbrev cX8_search : ByteArray := prog_1_method_17_code
def yX8_search : MethodName := ⟨RX8, "search", "(I)J"⟩
abbrev cX8_told : ByteArray := prog_1_method_18_code
def yX8_told : MethodName := ⟨RX8, "told", "(II)J"⟩
abbrev cX8_asked : ByteArray := prog_1_method_19_code
def yX8_asked : MethodName := ⟨RX8, "asked", "(III)I"⟩
abbrev cX8_two : ByteArray := prog_1_method_20_code
def yX8_two : MethodName := ⟨RX8, "two", "(III)I"⟩
abbrev cX8_judge : ByteArray := prog_1_method_21_code
def yX8_judge : MethodName := ⟨RX8, "judge", "(II)I"⟩
abbrev cX8_which : ByteArray := prog_1_method_22_code
def yX8_which : MethodName := ⟨RX8, "which", "(II)I"⟩
abbrev cX8_how : ByteArray := prog_1_method_23_code
def yX8_how : MethodName := ⟨RX8, "how", "(III)I"⟩
abbrev cX8_drawn : ByteArray := prog_1_method_24_code
def yX8_drawn : MethodName := ⟨RX8, "drawn", "(IIII)I"⟩
abbrev cX8_puts : ByteArray := prog_1_method_25_code
def yX8_puts : MethodName := ⟨RX8, "puts", "(I)I"⟩
abbrev cX8_out : ByteArray := prog_1_method_26_code
def yX8_out : MethodName := ⟨RX8, "out", "(I)I"⟩
abbrev cX8_night : ByteArray := prog_1_method_27_code
def yX8_night : MethodName := ⟨RX8, "night", "()I"⟩
abbrev cX8_led : ByteArray := prog_1_method_28_code
def yX8_led : MethodName := ⟨RX8, "led", "(I)I"⟩
abbrev cX8_image : ByteArray := prog_1_method_29_code
def yX8_image : MethodName := ⟨RX8, "image", "()I"⟩
abbrev cX8_back : ByteArray := prog_1_method_30_code
def yX8_back : MethodName := ⟨RX8, "back", "()I"⟩
abbrev cX8_undo : ByteArray := prog_1_method_31_code
def yX8_undo : MethodName := ⟨RX8, "undo", "()I"⟩
abbrev cX8_redo : ByteArray := prog_1_method_32_code
def yX8_redo : MethodName := ⟨RX8, "redo", "()I"⟩
abbrev cX8_body : ByteArray := prog_1_method_33_code
def yX8_body : MethodName := ⟨RX8, "body", "(I)I"⟩
abbrev cX8_act : ByteArray := prog_1_method_34_code
def yX8_act : MethodName := ⟨RX8, "act", "(III)I"⟩
abbrev cX8_trace : ByteArray := prog_1_method_35_code
def yX8_trace : MethodName := ⟨RX8, "trace", "(I)I"⟩
abbrev cX8_keep : ByteArray := prog_1_method_36_code
def yX8_keep : MethodName := ⟨RX8, "keep", "(II)I"⟩
abbrev cX8_row : ByteArray := prog_1_method_37_code
def yX8_row : MethodName := ⟨RX8, "row", "(III)I"⟩
abbrev cX8_put : ByteArray := prog_1_method_38_code
def yX8_put : MethodName := ⟨RX8, "put", "(IIJ)I"⟩
abbrev cX8_element : ByteArray := prog_1_method_39_code
def yX8_element : MethodName := ⟨RX8, "element", "(II)J"⟩
abbrev cX8_shift : ByteArray := prog_1_method_40_code
def yX8_shift : MethodName := ⟨RX8, "shift", "(IIIII)I"⟩
abbrev cX8_taken : ByteArray := prog_1_method_41_code
def yX8_taken : MethodName := ⟨RX8, "taken", "(II)I"⟩
abbrev cX8_count : ByteArray := prog_1_method_42_code
def yX8_count : MethodName := ⟨RX8, "count", "(I)I"⟩
abbrev cX8_canBe : ByteArray := prog_1_method_43_code
def yX8_canBe : MethodName := ⟨RX8, "canBe", "(II)Z"⟩
abbrev cX8_holdersOf : ByteArray := prog_1_method_44_code
def yX8_holdersOf : MethodName := ⟨RX8, "holdersOf", "(I)I"⟩
abbrev cX8_isThere : ByteArray := prog_1_method_45_code
def yX8_isThere : MethodName := ⟨RX8, "isThere", "(II)Z"⟩
abbrev cX8_isCuff : ByteArray := prog_1_method_46_code
def yX8_isCuff : MethodName := ⟨RX8, "isCuff", "(I)Z"⟩
abbrev cX8_isLinkAndCuff : ByteArray := prog_1_method_47_code
def yX8_isLinkAndCuff : MethodName := ⟨RX8, "isLinkAndCuff", "(I)Z"⟩
abbrev cX8_isShelf : ByteArray := prog_1_method_48_code
def yX8_isShelf : MethodName := ⟨RX8, "isShelf", "(I)Z"⟩
abbrev cX8_isPart : ByteArray := prog_1_method_49_code
def yX8_isPart : MethodName := ⟨RX8, "isPart", "(I)Z"⟩
abbrev cX8_bothCount : ByteArray := prog_1_method_50_code
def yX8_bothCount : MethodName := ⟨RX8, "bothCount", "()I"⟩
abbrev cX8_addCuff : ByteArray := prog_1_method_51_code
def yX8_addCuff : MethodName := ⟨RX8, "addCuff", "(III)I"⟩
abbrev cX8_cameFrom : ByteArray := prog_1_method_52_code
def yX8_cameFrom : MethodName := ⟨RX8, "cameFrom", "(LWithOneHand$Shelf;I)Z"⟩
abbrev cX8_takesWith : ByteArray := prog_1_method_53_code
def yX8_takesWith : MethodName := ⟨RX8, "takesWith", "(IIIII)I"⟩
abbrev cX8_takesBySkill : ByteArray := prog_1_method_54_code
def yX8_takesBySkill : MethodName := ⟨RX8, "takesBySkill", "(IIII)I"⟩
abbrev cX8_takesByHand : ByteArray := prog_1_method_55_code
def yX8_takesByHand : MethodName := ⟨RX8, "takesByHand", "(IIII)I"⟩
abbrev cX8_takesNow : ByteArray := prog_1_method_56_code
def yX8_takesNow : MethodName := ⟨RX8, "takesNow", "(II)I"⟩
abbrev cX8_takesBefore : ByteArray := prog_1_method_57_code
def yX8_takesBefore : MethodName := ⟨RX8, "takesBefore", "(II)I"⟩
abbrev cX8_goesThrough : ByteArray := prog_1_method_58_code
def yX8_goesThrough : MethodName := ⟨RX8, "goesThrough", "(II)Z"⟩
abbrev cX8_takesAtBest : ByteArray := prog_1_method_59_code
def yX8_takesAtBest : MethodName := ⟨RX8, "takesAtBest", "(II)I"⟩
abbrev cX8_timesMore : ByteArray := prog_1_method_60_code
def yX8_timesMore : MethodName := ⟨RX8, "timesMore", "(III)I"⟩
abbrev cX8_leastSkill : ByteArray := prog_1_method_61_code
def yX8_leastSkill : MethodName := ⟨RX8, "leastSkill", "(III)I"⟩
abbrev cX8_takesAlone : ByteArray := prog_1_method_62_code
def yX8_takesAlone : MethodName := ⟨RX8, "takesAlone", "(I)I"⟩
abbrev cX8_takesHelping : ByteArray := prog_1_method_63_code
def yX8_takesHelping : MethodName := ⟨RX8, "takesHelping", "(I)I"⟩
abbrev cX8_firstNotSo : ByteArray := prog_1_method_64_code
def yX8_firstNotSo : MethodName := ⟨RX8, "firstNotSo", "(LWithOneHand$Shelf;IIII)I"⟩
abbrev cX8_leastStarch : ByteArray := prog_1_method_65_code
def yX8_leastStarch : MethodName := ⟨RX8, "leastStarch", "(LWithOneHand$Shelf;II)I"⟩
abbrev cX8_handsOf : ByteArray := prog_1_method_66_code
def yX8_handsOf : MethodName := ⟨RX8, "handsOf", "(LWithOneHand$Shelf;II)I"⟩
abbrev cX8_isSooner : ByteArray := prog_1_method_67_code
def yX8_isSooner : MethodName := ⟨RX8, "isSooner", "(II)Z"⟩
abbrev cX8_sortSpots : ByteArray := prog_1_method_68_code
def yX8_sortSpots : MethodName := ⟨RX8, "sortSpots", "()V"⟩
abbrev cX8_spotsFrom : ByteArray := prog_1_method_69_code
def yX8_spotsFrom : MethodName := ⟨RX8, "spotsFrom", "(LWithOneHand$Shelf;)I"⟩
abbrev cX8_meanOfLooking : ByteArray := prog_1_method_70_code
def yX8_meanOfLooking : MethodName := ⟨RX8, "meanOfLooking", "(II)J"⟩
abbrev cX8_inLowestTerms : ByteArray := prog_1_method_71_code
def yX8_inLowestTerms : MethodName := ⟨RX8, "inLowestTerms", "(JJI)J"⟩
def RX9 : String := "WithOneHandModel"
def TX9 : u_T := fun k => match k with
  | 0 => ("WithOneHandModel", "links", "I", false)
  | 1 => ("WithOneHandModel", "cuffs", "I", false)
  | 2 => ("WithOneHandModel", "spots", "I", false)
  | 3 => ("WithOneHandModel", "drops", "I", false)
  | 4 => ("WithOneHandModel", "finds", "I", false)
  | 5 => ("WithOneHandModel", "size", "I", false)
  | 6 => ("WithOneHandModel", "length", "I", false)
  | 7 => ("WithOneHandModel", "ran", "I", false)
  | 8 => ("WithOneHandModel", "bodies", "I", false)
  | 9 => ("WithOneHandModel", "isLaw", "Z", false)
  | 10 => ("WithOneHandModel", "hard", "[I", true)
  | 11 => ("WithOneHandModel", "chain", "[I", true)
  | 12 => ("WithOneHandModel", "starch", "[I", true)
  | 13 => ("WithOneHandModel", "off", "[I", true)
  | 14 => ("WithOneHandModel", "hand", "[I", true)
  | 15 => ("WithOneHandModel", "gap", "[I", true)
  | 16 => ("WithOneHandModel", "in", "[I", true)
  | 17 => ("WithOneHandModel", "skill", "[I", true)
  | 18 => ("WithOneHandModel", "wide", "[I", true)
  | 19 => ("WithOneHandModel", "done", "[I", true)
  | 20 => ("WithOneHandModel", "likely", "[I", true)
  | 21 => ("WithOneHandModel", "look", "[I", true)
  | 22 => ("WithOneHandModel", "tape", "[I", true)
  | 23 => ("WithOneHandModel", "text", "[I", true)
  | 24 => ("WithOneHandModel", "ofNumber", "[I", true)
  | 25 => ("WithOneHandModel", "ofWhat", "[I", true)
  | 26 => ("WithOneHandModel", "ofOld", "[I", true)
  | 27 => ("WithOneHandModel", "ofNew", "[I", true)
  | 28 => ("WithOneHandModel", "made", "I", false)
  | 29 => ("WithOneHandModel", "all", "I", false)
  | 30 => ("WithOneHandModel", "p", "I", false)
  | 31 => ("WithOneHandModel", "open", "I", false)
  | 32 => ("WithOneHandModel", "isRight", "Z", false)
  | 33 => ("WithOneHandModel", "names", "[I", true)
  | 34 => ("WithOneHandModel", "row", "[I", true)
  | 35 => ("WithOneHandModel", "best", "[I", true)
  | 36 => ("WithOneHandModel", "leastSum", "I", false)
  | 37 => ("WithOneHandModel", "passed", "I", false)
  | 38 => ("WithOneHandModel", "putIn", "I", false)
  | 39 => ("WithOneHandModel", "takenOut", "I", false)
  | 40 => ("WithOneHandModel", "nights", "I", false)
  | 41 => ("WithOneHandModel", "kept", "[I", true)
  | 42 => ("WithOneHandModel", "keptCuffs", "I", false)
  | 43 => ("WithOneHandModel", "ofKind", "[I", true)
  | 44 => ("WithOneHandModel", "trace", "[I", true)
  | 45 => ("WithOneHandModel", "held", "[I", true)
  | 46 => ("WithOneHandModel", "sort", "[I", true)
  | 47 => ("WithOneHandModel", "sizes", "[I", true)
  | 48 => ("WithOneHandModel", "shown", "[I", true)
  | 49 => ("WithOneHandModel", "cells", "[J", true)
  | _ => ("WithOneHandModel", "carried", "[J", true)
def tyX9 : Nat → FieldType := fun k => match k with
  | 0 => .int
  | 1 => .int
  | 2 => .int
  | 3 => .int
  | 4 => .int
  | 5 => .int
  | 6 => .int
  | 7 => .int
  | 8 => .int
  | 9 => .boolean
  | 10 => .array .int
  | 11 => .array .int
  | 12 => .array .int
  | 13 => .array .int
  | 14 => .array .int
  | 15 => .array .int
  | 16 => .array .int
  | 17 => .array .int
  | 18 => .array .int
  | 19 => .array .int
  | 20 => .array .int
  | 21 => .array .int
  | 22 => .array .int
  | 23 => .array .int
  | 24 => .array .int
  | 25 => .array .int
  | 26 => .array .int
  | 27 => .array .int
  | 28 => .int
  | 29 => .int
  | 30 => .int
  | 31 => .int
  | 32 => .boolean
  | 33 => .array .int
  | 34 => .array .int
  | 35 => .array .int
  | 36 => .int
  | 37 => .int
  | 38 => .int
  | 39 => .int
  | 40 => .int
  | 41 => .array .int
  | 42 => .int
  | 43 => .array .int
  | 44 => .array .int
  | 45 => .array .int
  | 46 => .array .int
  | 47 => .array .int
  | 48 => .array .int
  | 49 => .array .long
  | _ => .array .long
abbrev wsX90 : List Cond := u_ws RX9 TX9 51
theorem nmX9 : ∀ a, a < 51 → ∀ b, b < 51 → a ≠ b → (TX9 a).2.1 ≠ (TX9 b).2.1 := by decide +kernel
theorem tyX9_ok : ∀ k, k < 51 → parseFieldDescriptor (TX9 k).2.2.1 = some (tyX9 k) := by decide +kernel
abbrev cX9_init : ByteArray := prog_11_method_1_code
def yX9_init : MethodName := ⟨RX9, "<init>", "()V"⟩
abbrev cX9_isIn : ByteArray := prog_11_method_2_code
def yX9_isIn : MethodName := ⟨RX9, "isIn", "(III)Z"⟩
abbrev cX9_isLink : ByteArray := prog_11_method_3_code
def yX9_isLink : MethodName := ⟨RX9, "isLink", "(I)Z"⟩
abbrev cX9_isCuff : ByteArray := prog_11_method_4_code
def yX9_isCuff : MethodName := ⟨RX9, "isCuff", "(I)Z"⟩
abbrev cX9_has : ByteArray := prog_11_method_5_code
def yX9_has : MethodName := ⟨RX9, "has", "(II)Z"⟩
abbrev cX9_link : ByteArray := prog_11_method_6_code
def yX9_link : MethodName := ⟨RX9, "link", "(II)I"⟩
abbrev cX9_adds : ByteArray := prog_11_method_7_code
def yX9_adds : MethodName := ⟨RX9, "adds", "(III)I"⟩
abbrev cX9_cuff : ByteArray := prog_11_method_8_code
def yX9_cuff : MethodName := ⟨RX9, "cuff", "(II)I"⟩
abbrev cX9_cuffs : ByteArray := prog_11_method_9_code
def yX9_cuffs : MethodName := ⟨RX9, "cuffs", "(III)I"⟩
abbrev cX9_spot : ByteArray := prog_11_method_10_code
def yX9_spot : MethodName := ⟨RX9, "spot", "(II)I"⟩
abbrev cX9_least : ByteArray := prog_11_method_11_code
def yX9_least : MethodName := ⟨RX9, "least", "(I)I"⟩
abbrev cX9_most : ByteArray := prog_11_method_12_code
def yX9_most : MethodName := ⟨RX9, "most", "(I)I"⟩
abbrev cX9_isNumber : ByteArray := prog_11_method_13_code
def yX9_isNumber : MethodName := ⟨RX9, "isNumber", "(II)Z"⟩
abbrev cX9_read : ByteArray := prog_11_method_14_code
def yX9_read : MethodName := ⟨RX9, "read", "(II)I"⟩
abbrev cX9_write : ByteArray := prog_11_method_15_code
def yX9_write : MethodName := ⟨RX9, "write", "(III)V"⟩
abbrev cX9_drops : ByteArray := prog_11_method_16_code
def yX9_drops : MethodName := ⟨RX9, "drops", "()V"⟩
abbrev cX9_mend : ByteArray := prog_11_method_17_code
def yX9_mend : MethodName := ⟨RX9, "mend", "(III)I"⟩
abbrev cX9_undo : ByteArray := prog_11_method_18_code
def yX9_undo : MethodName := ⟨RX9, "undo", "()I"⟩
abbrev cX9_redo : ByteArray := prog_11_method_19_code
def yX9_redo : MethodName := ⟨RX9, "redo", "()I"⟩
abbrev cX9_of : ByteArray := prog_11_method_20_code
def yX9_of : MethodName := ⟨RX9, "of", "(II)I"⟩
abbrev cX9_feed : ByteArray := prog_11_method_21_code
def yX9_feed : MethodName := ⟨RX9, "feed", "(I)I"⟩
abbrev cX9_next : ByteArray := prog_11_method_22_code
def yX9_next : MethodName := ⟨RX9, "next", "()I"⟩
abbrev cX9_isNext : ByteArray := prog_11_method_23_code
def yX9_isNext : MethodName := ⟨RX9, "isNext", "(C)Z"⟩
abbrev cX9_isDigit : ByteArray := prog_11_method_24_code
def yX9_isDigit : MethodName := ⟨RX9, "isDigit", "(I)Z"⟩
abbrev cX9_isName : ByteArray := prog_11_method_25_code
def yX9_isName : MethodName := ⟨RX9, "isName", "(I)Z"⟩
abbrev cX9_readsO : ByteArray := prog_11_method_26_code
def yX9_readsO : MethodName := ⟨RX9, "readsO", "()V"⟩
abbrev cX9_readsP : ByteArray := prog_11_method_27_code
def yX9_readsP : MethodName := ⟨RX9, "readsP", "()V"⟩
abbrev cX9_readsS : ByteArray := prog_11_method_28_code
def yX9_readsS : MethodName := ⟨RX9, "readsS", "()V"⟩
abbrev cX9_readsB : ByteArray := prog_11_method_29_code
def yX9_readsB : MethodName := ⟨RX9, "readsB", "()V"⟩
abbrev cX9_readsA : ByteArray := prog_11_method_30_code
def yX9_readsA : MethodName := ⟨RX9, "readsA", "()V"⟩
abbrev cX9_readsE : ByteArray := prog_11_method_31_code
def yX9_readsE : MethodName := ⟨RX9, "readsE", "()V"⟩
abbrev cX9_readsLine : ByteArray := prog_11_method_32_code
def yX9_readsLine : MethodName := ⟨RX9, "readsLine", "()V"⟩
abbrev cX9_law : ByteArray := prog_11_method_33_code
def yX9_law : MethodName := ⟨RX9, "law", "()I"⟩
abbrev cX9_seen : ByteArray := prog_11_method_34_code
def yX9_seen : MethodName := ⟨RX9, "seen", "()I"⟩
abbrev cX9_isSeen : ByteArray := prog_11_method_35_code
def yX9_isSeen : MethodName := ⟨RX9, "isSeen", "(C)Z"⟩
abbrev cX9_one : ByteArray := prog_11_method_36_code
def yX9_one : MethodName := ⟨RX9, "one", "(Z)I"⟩
abbrev cX9_takesO : ByteArray := prog_11_method_37_code
def yX9_takesO : MethodName := ⟨RX9, "takesO", "()I"⟩
abbrev cX9_takesP : ByteArray := prog_11_method_38_code
def yX9_takesP : MethodName := ⟨RX9, "takesP", "()I"⟩
abbrev cX9_takesS : ByteArray := prog_11_method_39_code
def yX9_takesS : MethodName := ⟨RX9, "takesS", "()I"⟩
abbrev cX9_takesB : ByteArray := prog_11_method_40_code
def yX9_takesB : MethodName := ⟨RX9, "takesB", "()I"⟩
abbrev cX9_takesA : ByteArray := prog_11_method_41_code
def yX9_takesA : MethodName := ⟨RX9, "takesA", "()I"⟩
abbrev cX9_takesE : ByteArray := prog_11_method_42_code
def yX9_takesE : MethodName := ⟨RX9, "takesE", "()I"⟩
abbrev cX9_given : ByteArray := prog_11_method_43_code
def yX9_given : MethodName := ⟨RX9, "given", "()I"⟩
abbrev cX9_takes : ByteArray := prog_11_method_44_code
def yX9_takes : MethodName := ⟨RX9, "takes", "(IIII)I"⟩
abbrev cX9_takesSo : ByteArray := prog_11_method_45_code
def yX9_takesSo : MethodName := ⟨RX9, "takesSo", "(IIIII)I"⟩
abbrev cX9_takesNow : ByteArray := prog_11_method_46_code
def yX9_takesNow : MethodName := ⟨RX9, "takesNow", "(II)I"⟩
abbrev cX9_ahead : ByteArray := prog_11_method_47_code
def yX9_ahead : MethodName := ⟨RX9, "ahead", "(II)I"⟩
abbrev cX9_goes : ByteArray := prog_11_method_48_code
def yX9_goes : MethodName := ⟨RX9, "goes", "(II)Z"⟩
abbrev cX9_isPair : ByteArray := prog_11_method_49_code
def yX9_isPair : MethodName := ⟨RX9, "isPair", "(I)Z"⟩
abbrev cX9_seconds : ByteArray := prog_11_method_50_code
def yX9_seconds : MethodName := ⟨RX9, "seconds", "(II)I"⟩
abbrev cX9_best : ByteArray := prog_11_method_51_code
def yX9_best : MethodName := ⟨RX9, "best", "(I)I"⟩
abbrev cX9_pairs : ByteArray := prog_11_method_52_code
def yX9_pairs : MethodName := ⟨RX9, "pairs", "(IIII)V"⟩
abbrev cX9_paired : ByteArray := prog_11_method_53_code
def yX9_paired : MethodName := ⟨RX9, "paired", "(II)I"⟩
abbrev cX9_both : ByteArray := prog_11_method_54_code
def yX9_both : MethodName := ⟨RX9, "both", "()I"⟩
abbrev cX9_orders : ByteArray := prog_11_method_55_code
def yX9_orders : MethodName := ⟨RX9, "orders", "(IIIIII)V"⟩
abbrev cX9_hardFirst : ByteArray := prog_11_method_56_code
def yX9_hardFirst : MethodName := ⟨RX9, "hardFirst", "(I)I"⟩
abbrev cX9_order : ByteArray := prog_11_method_57_code
def yX9_order : MethodName := ⟨RX9, "order", "(I)I"⟩
abbrev cX9_common : ByteArray := prog_11_method_58_code
def yX9_common : MethodName := ⟨RX9, "common", "(JJ)J"⟩
abbrev cX9_lowest : ByteArray := prog_11_method_59_code
def yX9_lowest : MethodName := ⟨RX9, "lowest", "(JJI)J"⟩
abbrev cX9_dropped : ByteArray := prog_11_method_60_code
def yX9_dropped : MethodName := ⟨RX9, "dropped", "(II)J"⟩
abbrev cX9_by : ByteArray := prog_11_method_61_code
def yX9_by : MethodName := ⟨RX9, "by", "(III)J"⟩
abbrev cX9_practice : ByteArray := prog_11_method_62_code
def yX9_practice : MethodName := ⟨RX9, "practice", "(III)I"⟩
abbrev cX9_nextSpot : ByteArray := prog_11_method_63_code
def yX9_nextSpot : MethodName := ⟨RX9, "nextSpot", "(I)I"⟩
abbrev cX9_search : ByteArray := prog_11_method_64_code
def yX9_search : MethodName := ⟨RX9, "search", "(I)J"⟩
abbrev cX9_told : ByteArray := prog_11_method_65_code
def yX9_told : MethodName := ⟨RX9, "told", "(II)J"⟩
abbrev cX9_asked : ByteArray := prog_11_method_66_code
def yX9_asked : MethodName := ⟨RX9, "asked", "(III)I"⟩
abbrev cX9_alone : ByteArray := prog_11_method_67_code
def yX9_alone : MethodName := ⟨RX9, "alone", "(I)I"⟩
abbrev cX9_helping : ByteArray := prog_11_method_68_code
def yX9_helping : MethodName := ⟨RX9, "helping", "(I)I"⟩
abbrev cX9_two : ByteArray := prog_11_method_69_code
def yX9_two : MethodName := ⟨RX9, "two", "(III)I"⟩
abbrev cX9_barsOf : ByteArray := prog_11_method_70_code
def yX9_barsOf : MethodName := ⟨RX9, "barsOf", "(I)I"⟩
abbrev cX9_unlike : ByteArray := prog_11_method_71_code
def yX9_unlike : MethodName := ⟨RX9, "unlike", "(IIIII)I"⟩
abbrev cX9_judge : ByteArray := prog_11_method_72_code
def yX9_judge : MethodName := ⟨RX9, "judge", "(II)I"⟩
abbrev cX9_which : ByteArray := prog_11_method_73_code
def yX9_which : MethodName := ⟨RX9, "which", "(II)I"⟩
abbrev cX9_how : ByteArray := prog_11_method_74_code
def yX9_how : MethodName := ⟨RX9, "how", "(III)I"⟩
abbrev cX9_drawn : ByteArray := prog_11_method_75_code
def yX9_drawn : MethodName := ⟨RX9, "drawn", "(IIII)I"⟩
abbrev cX9_isUsed : ByteArray := prog_11_method_76_code
def yX9_isUsed : MethodName := ⟨RX9, "isUsed", "(I)Z"⟩
abbrev cX9_puts : ByteArray := prog_11_method_77_code
def yX9_puts : MethodName := ⟨RX9, "puts", "(I)I"⟩
abbrev cX9_out : ByteArray := prog_11_method_78_code
def yX9_out : MethodName := ⟨RX9, "out", "(I)I"⟩
abbrev cX9_night : ByteArray := prog_11_method_79_code
def yX9_night : MethodName := ⟨RX9, "night", "()I"⟩
abbrev cX9_led : ByteArray := prog_11_method_80_code
def yX9_led : MethodName := ⟨RX9, "led", "(I)I"⟩
abbrev cX9_image : ByteArray := prog_11_method_81_code
def yX9_image : MethodName := ⟨RX9, "image", "()I"⟩
abbrev cX9_back : ByteArray := prog_11_method_82_code
def yX9_back : MethodName := ⟨RX9, "back", "()I"⟩
abbrev cX9_body : ByteArray := prog_11_method_83_code
def yX9_body : MethodName := ⟨RX9, "body", "(I)I"⟩
abbrev cX9_runs : ByteArray := prog_11_method_84_code
def yX9_runs : MethodName := ⟨RX9, "runs", "(I)V"⟩
abbrev cX9_above : ByteArray := prog_11_method_85_code
def yX9_above : MethodName := ⟨RX9, "above", "(I)I"⟩
abbrev cX9_rings : ByteArray := prog_11_method_86_code
def yX9_rings : MethodName := ⟨RX9, "rings", "(III)I"⟩
abbrev cX9_hears : ByteArray := prog_11_method_87_code
def yX9_hears : MethodName := ⟨RX9, "hears", "(III)I"⟩
abbrev cX9_doing : ByteArray := prog_11_method_88_code
def yX9_doing : MethodName := ⟨RX9, "doing", "(III)I"⟩
abbrev cX9_tells : ByteArray := prog_11_method_89_code
def yX9_tells : MethodName := ⟨RX9, "tells", "(III)I"⟩
abbrev cX9_act : ByteArray := prog_11_method_90_code
def yX9_act : MethodName := ⟨RX9, "act", "(III)I"⟩
abbrev cX9_trace : ByteArray := prog_11_method_91_code
def yX9_trace : MethodName := ⟨RX9, "trace", "(I)I"⟩
abbrev cX9_isShelf : ByteArray := prog_11_method_92_code
def yX9_isShelf : MethodName := ⟨RX9, "isShelf", "(I)Z"⟩
abbrev cX9_intAt : ByteArray := prog_11_method_93_code
def yX9_intAt : MethodName := ⟨RX9, "intAt", "(II)I"⟩
abbrev cX9_keep : ByteArray := prog_11_method_94_code
def yX9_keep : MethodName := ⟨RX9, "keep", "(II)I"⟩
abbrev cX9_row : ByteArray := prog_11_method_95_code
def yX9_row : MethodName := ⟨RX9, "row", "(III)I"⟩
abbrev cX9_barsOfRow : ByteArray := prog_11_method_96_code
def yX9_barsOfRow : MethodName := ⟨RX9, "barsOfRow", "(I)I"⟩
abbrev cX9_isElement : ByteArray := prog_11_method_97_code
def yX9_isElement : MethodName := ⟨RX9, "isElement", "(II)Z"⟩
abbrev cX9_put : ByteArray := prog_11_method_98_code
def yX9_put : MethodName := ⟨RX9, "put", "(IIJ)I"⟩
abbrev cX9_element : ByteArray := prog_11_method_99_code
def yX9_element : MethodName := ⟨RX9, "element", "(II)J"⟩
abbrev cX9_shift : ByteArray := prog_11_method_100_code
def yX9_shift : MethodName := ⟨RX9, "shift", "(IIIII)I"⟩
abbrev cX9_taken : ByteArray := prog_11_method_101_code
def yX9_taken : MethodName := ⟨RX9, "taken", "(II)I"⟩
abbrev cX9_count : ByteArray := prog_11_method_102_code
def yX9_count : MethodName := ⟨RX9, "count", "(I)I"⟩
def RJ6 : String := "java/lang/Integer"
def TJ6 : u_T := fun k => match k with
  | _ => ("", "", "", false)
def tyJ6 : Nat → FieldType := fun k => match k with
  | _ => .int
abbrev wsJ60 : List Cond := u_ws RJ6 TJ6 0
theorem nmJ6 : ∀ a, a < 0 → ∀ b, b < 0 → a ≠ b → (TJ6 a).2.1 ≠ (TJ6 b).2.1 := by decide +kernel
theorem tyJ6_ok : ∀ k, k < 0 → parseFieldDescriptor (TJ6 k).2.2.1 = some (tyJ6 k) := by decide +kernel
abbrev cJ6_bitCount_0f7a4 : ByteArray := prog_12_method_49_code
def yJ6_bitCount_0f7a4 : MethodName := ⟨RJ6, "bitCount", "(I)I"⟩
def RJ9 : String := "java/lang/Math"
def TJ9 : u_T := fun k => match k with
  | _ => ("", "", "", false)
def tyJ9 : Nat → FieldType := fun k => match k with
  | _ => .int
abbrev wsJ90 : List Cond := u_ws RJ9 TJ9 0
theorem nmJ9 : ∀ a, a < 0 → ∀ b, b < 0 → a ≠ b → (TJ9 a).2.1 ≠ (TJ9 b).2.1 := by decide +kernel
theorem tyJ9_ok : ∀ k, k < 0 → parseFieldDescriptor (TJ9 k).2.2.1 = some (tyJ9 k) := by decide +kernel
abbrev cJ9_max_7cf53 : ByteArray := prog_13_method_65_code
def yJ9_max_7cf53 : MethodName := ⟨RJ9, "max", "(II)I"⟩
abbrev cJ9_min_7cf53 : ByteArray := prog_13_method_69_code
def yJ9_min_7cf53 : MethodName := ⟨RJ9, "min", "(II)I"⟩
def RJ10 : String := "java/lang/System"
def TJ10 : u_T := fun k => match k with
  | _ => ("", "", "", false)
def tyJ10 : Nat → FieldType := fun k => match k with
  | _ => .int
abbrev wsJ100 : List Cond := u_ws RJ10 TJ10 0
theorem nmJ10 : ∀ a, a < 0 → ∀ b, b < 0 → a ≠ b → (TJ10 a).2.1 ≠ (TJ10 b).2.1 := by decide +kernel
theorem tyJ10_ok : ∀ k, k < 0 → parseFieldDescriptor (TJ10 k).2.2.1 = some (tyJ10 k) := by decide +kernel
def RJ7 : String := "java/util/Arrays"
def TJ7 : u_T := fun k => match k with
  | _ => ("", "", "", false)
def tyJ7 : Nat → FieldType := fun k => match k with
  | _ => .int
abbrev wsJ70 : List Cond := u_ws RJ7 TJ7 0
theorem nmJ7 : ∀ a, a < 0 → ∀ b, b < 0 → a ≠ b → (TJ7 a).2.1 ≠ (TJ7 b).2.1 := by decide +kernel
theorem tyJ7_ok : ∀ k, k < 0 → parseFieldDescriptor (TJ7 k).2.2.1 = some (tyJ7 k) := by decide +kernel
abbrev cJ7_fill_d0a16 : ByteArray := prog_15_method_101_code
def yJ7_fill_d0a16 : MethodName := ⟨RJ7, "fill", "([JJ)V"⟩
abbrev cJ7_fill_53178 : ByteArray := prog_15_method_103_code
def yJ7_fill_53178 : MethodName := ⟨RJ7, "fill", "([II)V"⟩
def RL : String := "WithOneHandLaw"
abbrev cL_law : ByteArray := code
def yL_law : MethodName := ⟨RL, "law", "([I)Z"⟩
end
section
/-- Plan's private methods, called on its subclasses -/
def exw : List Cond := [.selects RX4 yX5_firstBest yX5_firstBest, .selects RX4 yX5_sumWith yX5_sumWith, .selects RX7 yX5_firstBest yX5_firstBest, .selects RX7 yX5_sumWith yX5_sumWith]
end
section
abbrev vwCl : List vw_C := [(RX0, TX0, 2), (RX1, TX1, 6), (RX2, TX2, 5), (RX3, TX3, 9), (RX4, TX4, 4), (RX6, TX6, 4), (RX7, TX7, 5), (RX8, TX8, 16), (RX9, TX9, 51)]
def rfT : List (List Bool) := [[true, true], [true, true, true, true, false, false], [true, true, false, false, false], [true, true, true, true, false, false, false, true, false], [true, true, false, false], [true, false, false, false], [true, true, false, false, true], [true, true, true, true, true, true, true, true, true, true, true, true, false, false, false, false], [false, false, false, false, false, false, false, false, false, false, true, true, true, true, true, true, true, true, true, true, true, true, true, true, true, true, true, true, false, false, false, false, false, true, true, true, false, false, false, false, false, true, false, true, true, true, true, true, true, true, true]]

def isRf (ci k : Nat) : Bool := (rfT.getD ci []).getD k false
def nF (ci : Nat) : Nat := (rfT.getD ci []).length
/-! the store: a skeleton (kind, length, references) of the cells made, ints and longs by handle and place; handles 0..3 the static rows, 4 the script, 5.. the cells -/
abbrev SK : Type := List (Nat × Nat × List (Option Nat))
abbrev Sto : Type := SK × (Nat → Nat → Int32) × (Nat → Nat → Int64)
abbrev MRec : Type := MethodName × ByteArray × Nat × Option FieldType
abbrev GC : Type := Launch × va_G × (Nat → ClassId) × (Nat → Nat) × Nat × Nat × (Nat → Int32)
abbrev gL (g : GC) : Launch := g.1
abbrev gD (g : GC) : va_G := g.2.1
abbrev gA (g : GC) : Nat → ClassId := g.2.2.1
abbrev gS (g : GC) : Nat → Nat := g.2.2.2.1
abbrev gz (g : GC) : Nat := g.2.2.2.2.1
abbrev gN (g : GC) : Nat := g.2.2.2.2.2.1
abbrev gX (g : GC) : Nat → Int32 := g.2.2.2.2.2.2
def ad (g : GC) (h : Nat) : Nat := if h < 5 then gS g h else gz g + (h - 5)
def rv (g : GC) (v : Value) : Value := match v with
  | .ref h => .ref (ad g h)
  | w => w
def up2 {α : Type} (f : Nat → Nat → α) (h k : Nat) (v : α) : Nat → Nat → α := fun h' => if h' = h then (fun k' => if k' = k then v else f h k') else f h'
def rs2 {α : Type} (f : Nat → Nat → α) (h : Nat) (r : Nat → α) : Nat → Nat → α := fun h' => if h' = h then r else f h'
def fv (g : GC) (mi : Nat → Nat → Int32) (h ci : Nat) (rs : List (Option Nat)) (k : Nat) : Value := if isRf ci k = true then va_rf ((rs.getD k none).map (ad g)) else .int (mi h k)
def ce (g : GC) (mi : Nat → Nat → Int32) (ml : Nat → Nat → Int64) (h : Nat) (q : Nat × Nat × List (Option Nat)) : va_E :=
  if q.1 < 9 then .inr (q.1, (List.range (nF q.1)).map (fv g mi h q.1 q.2.2))
  else if q.1 = 100 then .inl (gA g 100, q.2.1, .inl (mi h))
  else if q.1 = 101 then .inl (gA g 101, q.2.1, .inr (.inl (ml h)))
  else .inl (gA g q.1, q.2.1, .inr (.inr (.inr (.inr (fun i => (q.2.2.getD i none).map (ad g))))))
def wl (g : GC) (σ : Sto) : va_W := σ.1.mapIdx fun k q => (gz g + k, ce g σ.2.1 σ.2.2 (k + 5) q)
def AA (g : GC) : Nat → Prop := fun q => gz g ≤ q
def World (g : GC) (σ : Sto) (H : Heap) : Prop := va_P (gD g) vwCl (wl g σ) H
def tysG (g : GC) : List (ClassId × FieldType) := [(gA g 100, .int), (gA g 101, .long), (gA g 102, .array .int), (gA g 103, .object "WithOneHand$Shelf")]
def cel (σ : Sto) (h : Nat) : Option (Nat × Nat × List (Option Nat)) := if h < 5 then none else σ.1[h - 5]?
def TB : List Cond := lw_tbl.filter goodWord ++ exw
def nestL : List (String × Nat × MethodName × String) := [("WithOneHand", 16, ⟨"WithOneHand$History", "<init>", "()V"⟩, "WithOneHand"), ("WithOneHand", 37, ⟨"WithOneHand$Pairs", "<init>", "()V"⟩, "WithOneHand"), ("WithOneHand$Pairs", 1, ⟨"WithOneHand$Plan", "<init>", "()V"⟩, "WithOneHand"), ("WithOneHand", 44, ⟨"WithOneHand$Turns", "<init>", "()V"⟩, "WithOneHand"), ("WithOneHand$Turns", 1, ⟨"WithOneHand$Plan", "<init>", "()V"⟩, "WithOneHand"), ("WithOneHand", 51, ⟨"WithOneHand$Holes", "<init>", "()V"⟩, "WithOneHand"), ("WithOneHand", 67, ⟨"WithOneHand$Law", "<init>", "()V"⟩, "WithOneHand"), ("WithOneHand", 75, ⟨"WithOneHand$Shelf", "<init>", "()V"⟩, "WithOneHand")]
def aoA (U : State) : Prop := (Cond.arrayOver (.array .int)).before #[] U = true
theorem aoA.moved {u U : State} (hvm : u.vm.Alike U.vm) (h : aoA u) : aoA U := by
  obtain ⟨comp, c, k, h1, h2, h3, h4, h5⟩ := arrayOverA_spec h
  obtain ⟨k', hk', he⟩ := hvm.2.2 _ _ h3
  have hi : (U.vm.classes.findIdx? fun (x : Class) => match x.kind with | .array component _ => component == comp | _ => false) = some c := by
    have hb : U.vm.bare = u.vm.bare := by first | exact hvm.bare_eq.symm | exact hvm.bare_eq
    refine (va_idx_bare U.vm comp).symm.trans ?_
    rw [hb]
    exact (va_idx_bare u.vm comp).trans h2
  have hkind : k'.kind = .array comp (.array .int) := by rw [he]; exact h4
  have f1 : U.vm.findClass (FieldType.array .int).toString = some comp := by rw [hvm.findClass]; exact h1
  have f2 : U.vm.findClass ("[" ++ (FieldType.array .int).toString) = some c := by rw [hvm.findClass]; exact h5
  unfold aoA Cond.before Cond.holds
  simp only [Cond.value]
  rw [f1, Option.bind_some]
  refine (congrArg (fun o : Option Nat => (o.bind (fun c => (U.vm.classes[c]?).map fun (k : Class) => match k.kind with | .array _ ty => decide (ty = FieldType.array .int) && decide (U.vm.findClass ("[" ++ (FieldType.array .int).toString) = some c) | _ => false) == some true)) hi).trans ?_
  simp [hk', hkind, f2]
def wsOf (μ : MRec) : List Cond := Cond.code μ.1 μ.2.1 μ.2.2.1 μ.2.2.2 :: TB
def rmOf (d K N : Nat) : Room := { frames := d + 1, cells := K, slots := N, locals := 40 * (d + 1) }
def SC : Nat → String × String := fun k => match k with
  | 0 => ("WithOneHand", "LEAST")
  | 1 => ("WithOneHand", "MOST")
  | 2 => ("WithOneHand$Holes", "ABOVE")
  | _ => ("WithOneHand$Holes", "OWN")
def SA : Nat → List Int32 := fun k => match k with
  | 0 => [1, 0, 0, 0, 0, 0, 0, 0, 0, 0, 1, 1, 1]
  | 1 => [9, 9, 9, 9, 1, 99, 9, 99, 99, 11, 99, 99, 99]
  | 2 => [-1, 0, 0, 2, 1, 3, 0, 4]
  | _ => [1, 10, 11, 2, 20, 0, 0, 0, 0, 30, 0, 0, 0, 41, 40, 0, 0, 0, 50, 0, 0, 0, 0, 60, 70, 0, 0, 0, 0, 80, 0, 81]
def EnvG (g : GC) (U : State) : Prop := va_K (gD g) vwCl (tysG g) U ∧ gz g ≤ U.heap.size ∧ (∀ j : Nat, j < 4 → va_Z (SC j).1 (SC j).2 "[I" (.ref (gS g j)) (AA g) U U.heap) ∧ (∀ j : Nat, j < 4 → va_T .int (gS g j) (SA j).length (fun i => .int ((SA j).getD i 0)) (AA g) U U.heap) ∧ va_X (gS g 4) (gN g) (gX g) U U.heap ∧ gS g 4 < gz g ∧ (∀ q ∈ nestL, va_Nw (.methodLinkNest q.1 q.2.1 q.2.2.1 q.2.2.2) U) ∧ va_AO "WithOneHand$Shelf" U ∧ aoA U
theorem EnvG.to {g : GC} {s U : State} {locs : List Loc} (h : EnvG g s) (hS : va_S (AA g) s.heap U.heap locs) (hW : s.WarmedH U.vm) : EnvG g U := by
  obtain ⟨h1, h2, h3, h4, h5, h6, h7, h8, h9⟩ := h
  have hvm := hW.alike
  refine ⟨va_K.moved hvm h1, Nat.le_trans h2 hS.1, fun j hj => ?_, fun j hj => ?_, ?_, h6, fun q hq => va_Nw.warmM hW (h7 q hq), va_AO.moved hvm h8, aoA.moved hvm h9⟩
  · exact va_Z.moved hvm ((h3 j hj).kept (fun a ha hA => hS.2.1 a ha hA))
  · exact va_T.moved hvm ((h4 j hj).kept (fun a ha hA => hS.2.1 a ha hA))
  · refine va_X.moved hvm (h5.kept (hS.2.1 _ (Nat.lt_of_lt_of_le h6 h2) ?_))
    exact Nat.not_le.mpr h6
/-! the judgements -/
def CX (g : GC) (μ : MRec) (d K N : Nat) (p : Program) (R : Room) (s : State) (m : MethodId) (args : Array Value) (meth : Method) (c : Code) : Prop :=
  p.tables.exec = Jvm.exec ∧ c.code = μ.2.1 ∧ c.maxLocals = μ.2.2.1 ∧ s.vm.findClass μ.1.cls = some m.cls ∧ (∀ w ∈ TB, w.before args s = true) ∧ meth.sig.returnType = μ.2.2.2 ∧ meth.locks = false ∧ meth.name = μ.1.name ∧ EnvG g s ∧ d + 1 ≤ R.frames ∧ 40 * (d + 1) ≤ R.locals ∧ K ≤ R.cells ∧ N ≤ R.slots
def retOK (μ : MRec) (pc : Nat) (v : Option Value) : Prop := match v with
  | none => μ.2.2.2 = none ∧ decode μ.2.1 pc = .ok (.return_, 1)
  | some (.int x) => (∃ ty, μ.2.2.2 = some ty ∧ narrow ty (.int x) = .int x) ∧ decode μ.2.1 pc = .ok (.ireturn, 1)
  | some (.long _) => μ.2.2.2 = some .long ∧ decode μ.2.1 pc = .ok (.lreturn, 1)
  | _ => False
def RCl (g : GC) (μ : MRec) (K N : Nat) (Q : Option Value → Sto → Prop) (p : Program) (e : Env) (R : Room) (s : State) (m : MethodId) (args : Array Value) (below : List Frame) (meth : Method) (c : Code) (Z : State → Prop) : Prop :=
  ∀ (v : Option Value) (σ' : Sto) (H' : Heap) (locs' : List Loc) (k' w' pc' : Nat) (ls' : Array Slot), Q v σ' → retOK μ pc' v → World g σ' H' → s.heap.size + k' = gz g + σ'.1.length → va_S (AA g) s.heap H' locs' → k' ≤ K → w' ≤ N → W p (gL g) e R s m args below meth c H' locs' k' w' Z (F0 m pc' ls' (v.toList.map (rv g)))
def lvm (g : GC) (L : List (Nat × Value)) : List (Nat × Value) := L.map (fun q => (q.1, rv g q.2))
def J (g : GC) (μ : MRec) (d K N pc : Nat) (L : List (Nat × Value)) (S : List Value) (σ : Sto) (k w : Nat) (Q : Option Value → Sto → Prop) : Prop :=
  ∀ (p : Program) (e : Env) (R : Room) (s : State) (m : MethodId) (args : Array Value) (below : List Frame) (meth : Method) (c : Code) (Z : State → Prop), CX g μ d K N p R s m args meth c → RCl g μ K N Q p e R s m args below meth c Z →
  ∀ (H : Heap) (locs : List Loc) (ls : Array Slot), (World g σ H ∧ s.heap.size + k = gz g + σ.1.length) → va_S (AA g) s.heap H locs → lv_has ls μ.2.2.1 (lvm g L) → k ≤ K → w ≤ N → W p (gL g) e R s m args below meth c H locs k w Z (F0 m pc ls (S.map (rv g)))
def QcG (g : GC) (Q : Option Value → Sto → Prop) : Array Value → State → Outcome → State → Prop := fun _ st oc t => (∃ (v : Option Value) (σ' : Sto), oc = .returned (v.map (rv g)) ∧ Q v σ' ∧ World g σ' t.heap) ∧ va_F (AA g) st t
def PcG (g : GC) (as : List Value) (σ : Sto) : Array Value → State → Prop := va_Pc (as.map (rv g)) (fun U => (World g σ U.heap ∧ U.heap.size = gz g + σ.1.length) ∧ EnvG g U)
def JC (g : GC) (μ : MRec) (d K N : Nat) (as : List Value) (σ : Sto) (Q : Option Value → Sto → Prop) : Prop :=
  Met (gL g) μ.1 (wsOf μ) (rmOf d K N) (PcG g as σ) (QcG g Q) K N (AA g)
def EQ (v0 : Option Value) (σ0 : Sto) : Option Value → Sto → Prop := fun v σ => v = v0 ∧ σ = σ0
theorem PcG.blind {g : GC} {as : List Value} {σ : Sto} : FrameBlind (PcG g as σ) := fun a U f mk q => by
  obtain ⟨q0, q1, q2⟩ := q
  refine ⟨q0, q1, ?_⟩
  obtain ⟨h1, h2, h3, h4, h5, h6, h7, h8, h9⟩ := q2
  have ha : U.vm.Alike (U.calling f mk a).vm := Vm.Alike.refl U.vm
  exact ⟨va_K.moved ha h1, h2, fun j hj => va_Z.moved ha (h3 j hj), fun j hj => va_T.moved ha (h4 j hj), va_X.moved ha h5, h6, fun q hq => va_Nw.same rfl rfl (h7 q hq), va_AO.moved ha h8, aoA.moved ha h9⟩
theorem rv_cat (g : GC) (v : Value) : (rv g v).category = v.category := by cases v <;> rfl
theorem rv_cats (g : GC) (S : List Value) : (S.map (rv g)).map (fun v => v.category) = S.map (fun v => v.category) := by
  rw [List.map_map]
  exact List.map_congr_left (fun v _ => rv_cat g v)
theorem lvm_at {g : GC} {L : List (Nat × Value)} {j i : Nat} {v : Value} (h : L[j]? = some (i, v)) : (lvm g L)[j]? = some (i, rv g v) := by
  unfold lvm
  rw [List.getElem?_map, h]
  rfl
theorem lvm_filter {g : GC} {L : List (Nat × Value)} (f : Nat → Nat → Bool) : (lvm g L).filter (fun q => f q.1 q.2.category) = lvm g (L.filter (fun q => f q.1 q.2.category)) := by
  unfold lvm
  rw [List.filter_map]
  congr 1
  apply List.filter_congr
  intro q _
  simp [Function.comp, rv_cat]
theorem lvm_store {g : GC} {L L' : List (Nat × Value)} {i : Nat} {v : Value} (h : (i, v) :: L.filter (fun q => !(q.1 == i) && !(q.1 + 1 == i && q.2.category == 2)) = L') : (i, rv g v) :: (lvm g L).filter (fun q => !(q.1 == i) && !(q.1 + 1 == i && q.2.category == 2)) = lvm g L' := by
  subst h
  rw [lvm_filter (fun a b => !(a == i) && !(a + 1 == i && b == 2))]
  rfl
theorem lvm_store2 {g : GC} {L L' : List (Nat × Value)} {i : Nat} {v : Value} (h : (i, v) :: L.filter (fun q => !(q.1 == i) && (!(q.1 == i + 1) && !(q.1 + 1 == i && q.2.category == 2))) = L') : (i, rv g v) :: (lvm g L).filter (fun q => !(q.1 == i) && (!(q.1 == i + 1) && !(q.1 + 1 == i && q.2.category == 2))) = lvm g L' := by
  subst h
  rw [lvm_filter (fun a b => !(a == i) && (!(a == i + 1) && !(a + 1 == i && b == 2)))]
  rfl
section JR
variable {g : GC} {μ : MRec} {d K N pc : Nat} {L : List (Nat × Value)} {S : List Value} {σ : Sto} {k w : Nat} {Q : Option Value → Sto → Prop}
theorem J_sub {L' : List (Nat × Value)} (ks : List Nat) (hl : lv_pick L ks = L') (kk : J g μ d K N pc L' S σ k w Q) : J g μ d K N pc L S σ k w Q := by
  intro p e R s m args below meth c Z hC hR H locs ls hW hS hl1 hk hw
  refine kk p e R s m args below meth c Z hC hR H locs ls hW hS (lv_sub hl1 ks ?_) hk hw
  subst hl
  unfold lv_pick lvm
  rw [List.map_filterMap]
  congr 1
  funext i
  rw [List.getElem?_map]

theorem J_iconst {n : Int} {v : Int32} (hd : decode μ.2.1 pc = .ok (.iconst n, 1)) (hv : Int32.ofInt n = v) (kk : J g μ d K N (pc + 1) L (.int v :: S) σ k w Q) : J g μ d K N pc L (S) σ k w Q := by
  intro p e R s m args below meth c Z hC hR H locs ls hW hS hl hk hw
  exact lv_iconst hC.1 hC.2.1 hd hv (kk p e R s m args below meth c Z hC hR H locs ls hW hS hl hk hw)
theorem J_bipush {n : Int} {v : Int32} (hd : decode μ.2.1 pc = .ok (.bipush n, 2)) (hv : (Int8.ofInt n).toInt32 = v) (kk : J g μ d K N (pc + 2) L (.int v :: S) σ k w Q) : J g μ d K N pc L (S) σ k w Q := by
  intro p e R s m args below meth c Z hC hR H locs ls hW hS hl hk hw
  exact lv_bipush hC.1 hC.2.1 hd hv (kk p e R s m args below meth c Z hC hR H locs ls hW hS hl hk hw)
theorem J_sipush {n : Int} {v : Int32} (hd : decode μ.2.1 pc = .ok (.sipush n, 3)) (hv : (Int16.ofInt n).toInt32 = v) (kk : J g μ d K N (pc + 3) L (.int v :: S) σ k w Q) : J g μ d K N pc L (S) σ k w Q := by
  intro p e R s m args below meth c Z hC hR H locs ls hW hS hl hk hw
  exact lv_sipush hC.1 hC.2.1 hd hv (kk p e R s m args below meth c Z hC hR H locs ls hW hS hl hk hw)
theorem J_lconst {n : Fin 2} {v : Int64} (hd : decode μ.2.1 pc = .ok (.lconst n, 1)) (hv : Int64.ofNat (n : Nat) = v) (kk : J g μ d K N (pc + 1) L (.long v :: S) σ k w Q) : J g μ d K N pc L (S) σ k w Q := by
  intro p e R s m args below meth c Z hC hR H locs ls hW hS hl hk hw
  exact lv_lconst hC.1 hC.2.1 hd hv (kk p e R s m args below meth c Z hC hR H locs ls hW hS hl hk hw)
theorem irem_eq (x y : Int32) : x - x / y * y = x % y := by
  apply Int32.toInt_inj.mp
  have h := Int32.toInt_bmod_size (x % y)
  rw [Int32.toInt_mod] at h
  rw [Int32.toInt_mod, ← h]
  simp [Int.tmod_def, Int.mul_comm]
theorem lrem_eq (x y : Int64) : x - x / y * y = x % y := by
  apply Int64.toInt_inj.mp
  have h := Int64.toInt_bmod_size (x % y)
  rw [Int64.toInt_mod] at h
  rw [Int64.toInt_mod, ← h]
  simp [Int.tmod_def, Int.mul_comm]
theorem J_ineg {x : Int32} (hd : decode μ.2.1 pc = .ok (.ineg, 1)) (kk : J g μ d K N (pc + 1) L (.int (-x) :: S) σ k w Q) : J g μ d K N pc L (.int x :: S) σ k w Q := by
  intro p e R s m args below meth c Z hC hR H locs ls hW hS hl hk hw
  exact lv_ineg hC.1 hC.2.1 hd (kk p e R s m args below meth c Z hC hR H locs ls hW hS hl hk hw)
theorem J_ishl {x y : Int32} (hd : decode μ.2.1 pc = .ok (.ishl, 1)) (kk : J g μ d K N (pc + 1) L (.int (x <<< (y &&& 31)) :: S) σ k w Q) : J g μ d K N pc L (.int y :: .int x :: S) σ k w Q := by
  intro p e R s m args below meth c Z hC hR H locs ls hW hS hl hk hw
  exact lv_ishl hC.1 hC.2.1 hd (kk p e R s m args below meth c Z hC hR H locs ls hW hS hl hk hw)
theorem J_ishr {x y : Int32} (hd : decode μ.2.1 pc = .ok (.ishr, 1)) (kk : J g μ d K N (pc + 1) L (.int (x >>> (y &&& 31)) :: S) σ k w Q) : J g μ d K N pc L (.int y :: .int x :: S) σ k w Q := by
  intro p e R s m args below meth c Z hC hR H locs ls hW hS hl hk hw
  exact lv_ishr hC.1 hC.2.1 hd (kk p e R s m args below meth c Z hC hR H locs ls hW hS hl hk hw)
def iush (x y : Int32) : Int32 := (x.toUInt32 >>> (y.toUInt32 &&& Int32.toUInt32 31)).toInt32
def lsh (x : Int64) (y : Int32) : Int64 := x <<< (y.toInt64 &&& 63)
theorem J_iushr {x y : Int32} (hd : decode μ.2.1 pc = .ok (.iushr, 1)) (kk : J g μ d K N (pc + 1) L (.int (iush x y) :: S) σ k w Q) : J g μ d K N pc L (.int y :: .int x :: S) σ k w Q := by
  intro p e R s m args below meth c Z hC hR H locs ls hW hS hl hk hw
  exact lv_iushr hC.1 hC.2.1 hd rfl (kk p e R s m args below meth c Z hC hR H locs ls hW hS hl hk hw)
theorem J_lshl {x : Int64} {y : Int32} (hd : decode μ.2.1 pc = .ok (.lshl, 1)) (kk : J g μ d K N (pc + 1) L (.long (lsh x y) :: S) σ k w Q) : J g μ d K N pc L (.int y :: .long x :: S) σ k w Q := by
  intro p e R s m args below meth c Z hC hR H locs ls hW hS hl hk hw
  exact lv_lshl hC.1 hC.2.1 hd rfl (kk p e R s m args below meth c Z hC hR H locs ls hW hS hl hk hw)
theorem J_iadd {x y : Int32} (hd : decode μ.2.1 pc = .ok (.iadd, 1)) (kk : J g μ d K N (pc + 1) L (.int (x + y) :: S) σ k w Q) : J g μ d K N pc L (.int y :: .int x :: S) σ k w Q := by
  intro p e R s m args below meth c Z hC hR H locs ls hW hS hl hk hw
  exact lv_iadd hC.1 hC.2.1 hd (kk p e R s m args below meth c Z hC hR H locs ls hW hS hl hk hw)
theorem J_isub {x y : Int32} (hd : decode μ.2.1 pc = .ok (.isub, 1)) (kk : J g μ d K N (pc + 1) L (.int (x - y) :: S) σ k w Q) : J g μ d K N pc L (.int y :: .int x :: S) σ k w Q := by
  intro p e R s m args below meth c Z hC hR H locs ls hW hS hl hk hw
  exact lv_isub hC.1 hC.2.1 hd (kk p e R s m args below meth c Z hC hR H locs ls hW hS hl hk hw)
theorem J_imul {x y : Int32} (hd : decode μ.2.1 pc = .ok (.imul, 1)) (kk : J g μ d K N (pc + 1) L (.int (x * y) :: S) σ k w Q) : J g μ d K N pc L (.int y :: .int x :: S) σ k w Q := by
  intro p e R s m args below meth c Z hC hR H locs ls hW hS hl hk hw
  exact lv_imul hC.1 hC.2.1 hd (kk p e R s m args below meth c Z hC hR H locs ls hW hS hl hk hw)
theorem J_iand {x y : Int32} (hd : decode μ.2.1 pc = .ok (.iand, 1)) (kk : J g μ d K N (pc + 1) L (.int (x &&& y) :: S) σ k w Q) : J g μ d K N pc L (.int y :: .int x :: S) σ k w Q := by
  intro p e R s m args below meth c Z hC hR H locs ls hW hS hl hk hw
  exact lv_iand hC.1 hC.2.1 hd (kk p e R s m args below meth c Z hC hR H locs ls hW hS hl hk hw)
theorem J_ior {x y : Int32} (hd : decode μ.2.1 pc = .ok (.ior, 1)) (kk : J g μ d K N (pc + 1) L (.int (x ||| y) :: S) σ k w Q) : J g μ d K N pc L (.int y :: .int x :: S) σ k w Q := by
  intro p e R s m args below meth c Z hC hR H locs ls hW hS hl hk hw
  exact lv_ior hC.1 hC.2.1 hd (kk p e R s m args below meth c Z hC hR H locs ls hW hS hl hk hw)
theorem J_ixor {x y : Int32} (hd : decode μ.2.1 pc = .ok (.ixor, 1)) (kk : J g μ d K N (pc + 1) L (.int (x ^^^ y) :: S) σ k w Q) : J g μ d K N pc L (.int y :: .int x :: S) σ k w Q := by
  intro p e R s m args below meth c Z hC hR H locs ls hW hS hl hk hw
  exact lv_ixor hC.1 hC.2.1 hd (kk p e R s m args below meth c Z hC hR H locs ls hW hS hl hk hw)
theorem J_ladd {x y : Int64} (hd : decode μ.2.1 pc = .ok (.ladd, 1)) (kk : J g μ d K N (pc + 1) L (.long (x + y) :: S) σ k w Q) : J g μ d K N pc L (.long y :: .long x :: S) σ k w Q := by
  intro p e R s m args below meth c Z hC hR H locs ls hW hS hl hk hw
  exact lv_ladd hC.1 hC.2.1 hd (kk p e R s m args below meth c Z hC hR H locs ls hW hS hl hk hw)
theorem J_lsub {x y : Int64} (hd : decode μ.2.1 pc = .ok (.lsub, 1)) (kk : J g μ d K N (pc + 1) L (.long (x - y) :: S) σ k w Q) : J g μ d K N pc L (.long y :: .long x :: S) σ k w Q := by
  intro p e R s m args below meth c Z hC hR H locs ls hW hS hl hk hw
  exact lv_lsub hC.1 hC.2.1 hd (kk p e R s m args below meth c Z hC hR H locs ls hW hS hl hk hw)
theorem J_lmul {x y : Int64} (hd : decode μ.2.1 pc = .ok (.lmul, 1)) (kk : J g μ d K N (pc + 1) L (.long (x * y) :: S) σ k w Q) : J g μ d K N pc L (.long y :: .long x :: S) σ k w Q := by
  intro p e R s m args below meth c Z hC hR H locs ls hW hS hl hk hw
  exact lv_lmul hC.1 hC.2.1 hd (kk p e R s m args below meth c Z hC hR H locs ls hW hS hl hk hw)
theorem J_land {x y : Int64} (hd : decode μ.2.1 pc = .ok (.land, 1)) (kk : J g μ d K N (pc + 1) L (.long (x &&& y) :: S) σ k w Q) : J g μ d K N pc L (.long y :: .long x :: S) σ k w Q := by
  intro p e R s m args below meth c Z hC hR H locs ls hW hS hl hk hw
  exact lv_land hC.1 hC.2.1 hd (kk p e R s m args below meth c Z hC hR H locs ls hW hS hl hk hw)
theorem J_lor {x y : Int64} (hd : decode μ.2.1 pc = .ok (.lor, 1)) (kk : J g μ d K N (pc + 1) L (.long (x ||| y) :: S) σ k w Q) : J g μ d K N pc L (.long y :: .long x :: S) σ k w Q := by
  intro p e R s m args below meth c Z hC hR H locs ls hW hS hl hk hw
  exact lv_lor hC.1 hC.2.1 hd (kk p e R s m args below meth c Z hC hR H locs ls hW hS hl hk hw)
theorem J_idiv {x y : Int32} (hd : decode μ.2.1 pc = .ok (.idiv, 1)) (hne : ¬ y = 0) (kk : J g μ d K N (pc + 1) L (.int (x / y) :: S) σ k w Q) : J g μ d K N pc L (.int y :: .int x :: S) σ k w Q := by
  intro p e R s m args below meth c Z hC hR H locs ls hW hS hl hk hw
  exact lv_idiv hC.1 hC.2.1 hd hne (kk p e R s m args below meth c Z hC hR H locs ls hW hS hl hk hw)
theorem J_ldiv {x y : Int64} (hd : decode μ.2.1 pc = .ok (.ldiv, 1)) (hne : ¬ y = 0) (kk : J g μ d K N (pc + 1) L (.long (x / y) :: S) σ k w Q) : J g μ d K N pc L (.long y :: .long x :: S) σ k w Q := by
  intro p e R s m args below meth c Z hC hR H locs ls hW hS hl hk hw
  exact lv_ldiv hC.1 hC.2.1 hd hne (kk p e R s m args below meth c Z hC hR H locs ls hW hS hl hk hw)
theorem J_irem {x y : Int32} (hd : decode μ.2.1 pc = .ok (.irem, 1)) (hne : ¬ y = 0) (kk : J g μ d K N (pc + 1) L (.int (x % y) :: S) σ k w Q) : J g μ d K N pc L (.int y :: .int x :: S) σ k w Q := by
  intro p e R s m args below meth c Z hC hR H locs ls hW hS hl hk hw
  refine lv_irem hC.1 hC.2.1 hd hne ?_
  rw [irem_eq]
  exact kk p e R s m args below meth c Z hC hR H locs ls hW hS hl hk hw
theorem J_lrem {x y : Int64} (hd : decode μ.2.1 pc = .ok (.lrem, 1)) (hne : ¬ y = 0) (kk : J g μ d K N (pc + 1) L (.long (x % y) :: S) σ k w Q) : J g μ d K N pc L (.long y :: .long x :: S) σ k w Q := by
  intro p e R s m args below meth c Z hC hR H locs ls hW hS hl hk hw
  refine lv_lrem hC.1 hC.2.1 hd hne ?_
  rw [lrem_eq]
  exact kk p e R s m args below meth c Z hC hR H locs ls hW hS hl hk hw
theorem J_lcmp {x y : Int64} (hd : decode μ.2.1 pc = .ok (.lcmp, 1)) (kk : J g μ d K N (pc + 1) L (.int (lg_cmp x y) :: S) σ k w Q) : J g μ d K N pc L (.long y :: .long x :: S) σ k w Q := by
  intro p e R s m args below meth c Z hC hR H locs ls hW hS hl hk hw
  exact W.lcmp hC.1 hC.2.1 hd (kk p e R s m args below meth c Z hC hR H locs ls hW hS hl hk hw)
theorem J_i2l {x : Int32} (hd : decode μ.2.1 pc = .ok (.i2l, 1)) (kk : J g μ d K N (pc + 1) L (.long x.toInt64 :: S) σ k w Q) : J g μ d K N pc L (.int x :: S) σ k w Q := by
  intro p e R s m args below meth c Z hC hR H locs ls hW hS hl hk hw
  exact lv_i2l hC.1 hC.2.1 hd rfl (kk p e R s m args below meth c Z hC hR H locs ls hW hS hl hk hw)
theorem J_l2i {x : Int64} (hd : decode μ.2.1 pc = .ok (.l2i, 1)) (kk : J g μ d K N (pc + 1) L (.int x.toInt32 :: S) σ k w Q) : J g μ d K N pc L (.long x :: S) σ k w Q := by
  intro p e R s m args below meth c Z hC hR H locs ls hW hS hl hk hw
  exact lv_l2i hC.1 hC.2.1 hd rfl (kk p e R s m args below meth c Z hC hR H locs ls hW hS hl hk hw)
theorem J_i2b {x : Int32} (hd : decode μ.2.1 pc = .ok (.i2b, 1)) (kk : J g μ d K N (pc + 1) L (.int x.toInt8.toInt32 :: S) σ k w Q) : J g μ d K N pc L (.int x :: S) σ k w Q := by
  intro p e R s m args below meth c Z hC hR H locs ls hW hS hl hk hw
  exact lv_i2b hC.1 hC.2.1 hd rfl (kk p e R s m args below meth c Z hC hR H locs ls hW hS hl hk hw)
theorem J_i2s {x : Int32} (hd : decode μ.2.1 pc = .ok (.i2s, 1)) (kk : J g μ d K N (pc + 1) L (.int x.toInt16.toInt32 :: S) σ k w Q) : J g μ d K N pc L (.int x :: S) σ k w Q := by
  intro p e R s m args below meth c Z hC hR H locs ls hW hS hl hk hw
  exact lv_i2s hC.1 hC.2.1 hd rfl (kk p e R s m args below meth c Z hC hR H locs ls hW hS hl hk hw)
theorem J_dup {va : Value} (hd : decode μ.2.1 pc = .ok (.dup, 1)) (hc : va.category = 1) (kk : J g μ d K N (pc + 1) L (va :: va :: S) σ k w Q) : J g μ d K N pc L (va :: S) σ k w Q := by
  intro p e R s m args below meth c Z hC hR H locs ls hW hS hl hk hw
  exact lv_dup hC.1 hC.2.1 hd ((rv_cat _ _).trans hc) (kk p e R s m args below meth c Z hC hR H locs ls hW hS hl hk hw)
theorem J_dup_x1 {va vb : Value} (hd : decode μ.2.1 pc = .ok (.dup_x1, 1)) (hc : va.category = 1) (hc2 : vb.category = 1) (kk : J g μ d K N (pc + 1) L (va :: vb :: va :: S) σ k w Q) : J g μ d K N pc L (va :: vb :: S) σ k w Q := by
  intro p e R s m args below meth c Z hC hR H locs ls hW hS hl hk hw
  exact lv_dup_x1 hC.1 hC.2.1 hd ((rv_cat _ _).trans hc) ((rv_cat _ _).trans hc2) (kk p e R s m args below meth c Z hC hR H locs ls hW hS hl hk hw)
theorem J_dup2 {va vb : Value} (hd : decode μ.2.1 pc = .ok (.dup2, 1)) (hc : va.category = 1) (hc2 : vb.category = 1) (kk : J g μ d K N (pc + 1) L (va :: vb :: va :: vb :: S) σ k w Q) : J g μ d K N pc L (va :: vb :: S) σ k w Q := by
  intro p e R s m args below meth c Z hC hR H locs ls hW hS hl hk hw
  exact lv_dup2_11 hC.1 hC.2.1 hd ((rv_cat _ _).trans hc) ((rv_cat _ _).trans hc2) (kk p e R s m args below meth c Z hC hR H locs ls hW hS hl hk hw)
theorem J_pop {va : Value} (hd : decode μ.2.1 pc = .ok (.pop, 1)) (hc : va.category = 1) (kk : J g μ d K N (pc + 1) L (S) σ k w Q) : J g μ d K N pc L (va :: S) σ k w Q := by
  intro p e R s m args below meth c Z hC hR H locs ls hW hS hl hk hw
  exact lv_pop hC.1 hC.2.1 hd ((rv_cat _ _).trans hc) (kk p e R s m args below meth c Z hC hR H locs ls hW hS hl hk hw)
theorem J_ldc {idx : Nat} {v : Int32} (hw : Cond.constant μ.1.cls idx v ∈ TB) (hd : decode μ.2.1 pc = .ok (.ldc idx, 2)) (kk : J g μ d K N (pc + 2) L (.int v :: S) σ k w Q) : J g μ d K N pc L S σ k w Q := by
  intro p e R s m args below meth c Z hC hR H locs ls hW hS hl hk hw2
  exact lv_ldc hC.1 hC.2.1 hC.2.2.2.1 (hC.2.2.2.2.1 _ hw) hd (kk p e R s m args below meth c Z hC hR H locs ls hW hS hl hk hw2)
theorem J_ldc_w {idx : Nat} {v : Int32} (hw : Cond.constant μ.1.cls idx v ∈ TB) (hd : decode μ.2.1 pc = .ok (.ldc_w idx, 3)) (kk : J g μ d K N (pc + 3) L (.int v :: S) σ k w Q) : J g μ d K N pc L S σ k w Q := by
  intro p e R s m args below meth c Z hC hR H locs ls hW hS hl hk hw2
  exact lv_ldcw hC.1 hC.2.1 hC.2.2.2.1 (hC.2.2.2.2.1 _ hw) hd (kk p e R s m args below meth c Z hC hR H locs ls hW hS hl hk hw2)
theorem J_ldc2 {idx : Nat} {v : Int64} (hw : Cond.constantLong μ.1.cls idx v ∈ TB) (hd : decode μ.2.1 pc = .ok (.ldc2_w idx, 3)) (kk : J g μ d K N (pc + 3) L (.long v :: S) σ k w Q) : J g μ d K N pc L S σ k w Q := by
  intro p e R s m args below meth c Z hC hR H locs ls hW hS hl hk hw2
  exact lv_ldc2 hC.1 hC.2.1 hC.2.2.2.1 (hC.2.2.2.2.1 _ hw) hd (kk p e R s m args below meth c Z hC hR H locs ls hW hS hl hk hw2)
theorem J_iload_n {f : Fin 4} {i j : Nat} {x : Int32} (hd : decode μ.2.1 pc = .ok (.iload_n f, 1)) (hj : L[j]? = some (i, .int x)) (hi : (f : Nat) = i) (kk : J g μ d K N (pc + 1) L (.int x :: S) σ k w Q) : J g μ d K N pc L S σ k w Q := by
  intro p e R s m args below meth c Z hC hR H locs ls hW hS hl hk hw
  exact lv_iload_n hC.1 hC.2.1 hd hi (lv_at hl j (lvm_at hj)) (kk p e R s m args below meth c Z hC hR H locs ls hW hS hl hk hw)
theorem J_iload {i j : Nat} {x : Int32} (hd : decode μ.2.1 pc = .ok (.iload i, 2)) (hj : L[j]? = some (i, .int x)) (kk : J g μ d K N (pc + 2) L (.int x :: S) σ k w Q) : J g μ d K N pc L S σ k w Q := by
  intro p e R s m args below meth c Z hC hR H locs ls hW hS hl hk hw
  exact lv_iload hC.1 hC.2.1 hd (lv_at hl j (lvm_at hj)) (kk p e R s m args below meth c Z hC hR H locs ls hW hS hl hk hw)
theorem J_istore_n {f : Fin 4} {i : Nat} {x : Int32} {L' : List (Nat × Value)} (hd : decode μ.2.1 pc = .ok (.istore_n f, 1)) (hi : (f : Nat) = i) (hn : i < μ.2.2.1) (hL : (i, .int x) :: L.filter (fun q => !(q.1 == i) && !(q.1 + 1 == i && q.2.category == 2)) = L') (kk : J g μ d K N (pc + 1) L' S σ k w Q) : J g μ d K N pc L (.int x :: S) σ k w Q := by
  intro p e R s m args below meth c Z hC hR H locs ls hW hS hl hk hw
  exact lv_istore_n hC.1 hC.2.1 hd hi hl hn (lvm_store hL) (fun ls' hl' => kk p e R s m args below meth c Z hC hR H locs ls' hW hS hl' hk hw)
theorem J_istore {i : Nat} {x : Int32} {L' : List (Nat × Value)} (hd : decode μ.2.1 pc = .ok (.istore i, 2)) (hn : i < μ.2.2.1) (hL : (i, .int x) :: L.filter (fun q => !(q.1 == i) && !(q.1 + 1 == i && q.2.category == 2)) = L') (kk : J g μ d K N (pc + 2) L' S σ k w Q) : J g μ d K N pc L (.int x :: S) σ k w Q := by
  intro p e R s m args below meth c Z hC hR H locs ls hW hS hl hk hw
  exact lv_istore hC.1 hC.2.1 hd hl hn (lvm_store hL) (fun ls' hl' => kk p e R s m args below meth c Z hC hR H locs ls' hW hS hl' hk hw)
theorem J_lload_n {f : Fin 4} {i j : Nat} {x : Int64} (hd : decode μ.2.1 pc = .ok (.lload_n f, 1)) (hj : L[j]? = some (i, .long x)) (hi : (f : Nat) = i) (kk : J g μ d K N (pc + 1) L (.long x :: S) σ k w Q) : J g μ d K N pc L S σ k w Q := by
  intro p e R s m args below meth c Z hC hR H locs ls hW hS hl hk hw
  exact lv_lload_n hC.1 hC.2.1 hd hi (lv_at hl j (lvm_at hj)) (kk p e R s m args below meth c Z hC hR H locs ls hW hS hl hk hw)
theorem J_lload {i j : Nat} {x : Int64} (hd : decode μ.2.1 pc = .ok (.lload i, 2)) (hj : L[j]? = some (i, .long x)) (kk : J g μ d K N (pc + 2) L (.long x :: S) σ k w Q) : J g μ d K N pc L S σ k w Q := by
  intro p e R s m args below meth c Z hC hR H locs ls hW hS hl hk hw
  exact lv_lload hC.1 hC.2.1 hd (lv_at hl j (lvm_at hj)) (kk p e R s m args below meth c Z hC hR H locs ls hW hS hl hk hw)
theorem J_lstore_n {f : Fin 4} {i : Nat} {x : Int64} {L' : List (Nat × Value)} (hd : decode μ.2.1 pc = .ok (.lstore_n f, 1)) (hi : (f : Nat) = i) (hn : i + 1 < μ.2.2.1) (hL : (i, .long x) :: L.filter (fun q => !(q.1 == i) && (!(q.1 == i + 1) && !(q.1 + 1 == i && q.2.category == 2))) = L') (kk : J g μ d K N (pc + 1) L' S σ k w Q) : J g μ d K N pc L (.long x :: S) σ k w Q := by
  intro p e R s m args below meth c Z hC hR H locs ls hW hS hl hk hw
  exact lv_lstore_n hC.1 hC.2.1 hd hi hl hn (lvm_store2 hL) (fun ls' hl' => kk p e R s m args below meth c Z hC hR H locs ls' hW hS hl' hk hw)
theorem J_lstore {i : Nat} {x : Int64} {L' : List (Nat × Value)} (hd : decode μ.2.1 pc = .ok (.lstore i, 2)) (hn : i + 1 < μ.2.2.1) (hL : (i, .long x) :: L.filter (fun q => !(q.1 == i) && (!(q.1 == i + 1) && !(q.1 + 1 == i && q.2.category == 2))) = L') (kk : J g μ d K N (pc + 2) L' S σ k w Q) : J g μ d K N pc L (.long x :: S) σ k w Q := by
  intro p e R s m args below meth c Z hC hR H locs ls hW hS hl hk hw
  exact lv_lstore hC.1 hC.2.1 hd hl hn (lvm_store2 hL) (fun ls' hl' => kk p e R s m args below meth c Z hC hR H locs ls' hW hS hl' hk hw)
theorem J_aload_n {f : Fin 4} {i j : Nat} {x : Nat} (hd : decode μ.2.1 pc = .ok (.aload_n f, 1)) (hj : L[j]? = some (i, .ref x)) (hi : (f : Nat) = i) (kk : J g μ d K N (pc + 1) L (.ref x :: S) σ k w Q) : J g μ d K N pc L S σ k w Q := by
  intro p e R s m args below meth c Z hC hR H locs ls hW hS hl hk hw
  exact lv_aload_n hC.1 hC.2.1 hd hi (lv_at hl j (lvm_at hj)) (kk p e R s m args below meth c Z hC hR H locs ls hW hS hl hk hw)
theorem J_aload {i j : Nat} {x : Nat} (hd : decode μ.2.1 pc = .ok (.aload i, 2)) (hj : L[j]? = some (i, .ref x)) (kk : J g μ d K N (pc + 2) L (.ref x :: S) σ k w Q) : J g μ d K N pc L S σ k w Q := by
  intro p e R s m args below meth c Z hC hR H locs ls hW hS hl hk hw
  exact lv_aload hC.1 hC.2.1 hd (lv_at hl j (lvm_at hj)) (kk p e R s m args below meth c Z hC hR H locs ls hW hS hl hk hw)
theorem J_astore_n {f : Fin 4} {i : Nat} {x : Nat} {L' : List (Nat × Value)} (hd : decode μ.2.1 pc = .ok (.astore_n f, 1)) (hi : (f : Nat) = i) (hn : i < μ.2.2.1) (hL : (i, .ref x) :: L.filter (fun q => !(q.1 == i) && !(q.1 + 1 == i && q.2.category == 2)) = L') (kk : J g μ d K N (pc + 1) L' S σ k w Q) : J g μ d K N pc L (.ref x :: S) σ k w Q := by
  intro p e R s m args below meth c Z hC hR H locs ls hW hS hl hk hw
  exact lv_astore_n hC.1 hC.2.1 hd hi hl hn (lvm_store hL) (fun ls' hl' => kk p e R s m args below meth c Z hC hR H locs ls' hW hS hl' hk hw)
theorem J_astore {i : Nat} {x : Nat} {L' : List (Nat × Value)} (hd : decode μ.2.1 pc = .ok (.astore i, 2)) (hn : i < μ.2.2.1) (hL : (i, .ref x) :: L.filter (fun q => !(q.1 == i) && !(q.1 + 1 == i && q.2.category == 2)) = L') (kk : J g μ d K N (pc + 2) L' S σ k w Q) : J g μ d K N pc L (.ref x :: S) σ k w Q := by
  intro p e R s m args below meth c Z hC hR H locs ls hW hS hl hk hw
  exact lv_astore hC.1 hC.2.1 hd hl hn (lvm_store hL) (fun ls' hl' => kk p e R s m args below meth c Z hC hR H locs ls' hW hS hl' hk hw)
theorem J_iinc {i j : Nat} {n : Int} {x v : Int32} {L' : List (Nat × Value)} (hd : decode μ.2.1 pc = .ok (.iinc i n, 3)) (hj : L[j]? = some (i, .int x)) (hv : x + Int32.ofInt n = v) (hn : i < μ.2.2.1) (hL : (i, .int v) :: L.filter (fun q => !(q.1 == i) && !(q.1 + 1 == i && q.2.category == 2)) = L') (kk : J g μ d K N (pc + 3) L' S σ k w Q) : J g μ d K N pc L S σ k w Q := by
  intro p e R s m args below meth c Z hC hR H locs ls hW hS hl hk hw
  exact lv_iinc hC.1 hC.2.1 hd hl (lvm_at hj) hv hn (lvm_store hL) (fun ls' hl' => kk p e R s m args below meth c Z hC hR H locs ls' hW hS hl' hk hw)
theorem J_goto {off : Int} {tgt : Nat} (hd : decode μ.2.1 pc = .ok (.goto off, 3)) (ht : (pc : Int) + off = (tgt : Int)) (kk : J g μ d K N tgt L S σ k w Q) : J g μ d K N pc L S σ k w Q := by
  intro p e R s m args below meth c Z hC hR H locs ls hW hS hl hk hw
  exact lv_goto hC.1 hC.2.1 hd ht (kk p e R s m args below meth c Z hC hR H locs ls hW hS hl hk hw)
theorem J_if_eq {x : Int32} {off : Int} {tgt : Nat} (hd : decode μ.2.1 pc = .ok (.ifCond .eq off, 3)) (ht : (pc : Int) + off = (tgt : Int)) (kt : x = 0 → J g μ d K N tgt L S σ k w Q) (kf : ¬ (x = 0) → J g μ d K N (pc + 3) L S σ k w Q) : J g μ d K N pc L (.int x :: S) σ k w Q := by
  intro p e R s m args below meth c Z hC hR H locs ls hW hS hl hk hw
  exact lv_if_eq hC.1 hC.2.1 hd ht (fun q => kt q p e R s m args below meth c Z hC hR H locs ls hW hS hl hk hw) (fun q => kf q p e R s m args below meth c Z hC hR H locs ls hW hS hl hk hw)
theorem J_icmp_eq {x y : Int32} {off : Int} {tgt : Nat} (hd : decode μ.2.1 pc = .ok (.if_icmp .eq off, 3)) (ht : (pc : Int) + off = (tgt : Int)) (kt : x = y → J g μ d K N tgt L S σ k w Q) (kf : ¬ (x = y) → J g μ d K N (pc + 3) L S σ k w Q) : J g μ d K N pc L (.int y :: .int x :: S) σ k w Q := by
  intro p e R s m args below meth c Z hC hR H locs ls hW hS hl hk hw
  exact lv_icmp_eq hC.1 hC.2.1 hd ht (fun q => kt q p e R s m args below meth c Z hC hR H locs ls hW hS hl hk hw) (fun q => kf q p e R s m args below meth c Z hC hR H locs ls hW hS hl hk hw)
theorem J_if_ne {x : Int32} {off : Int} {tgt : Nat} (hd : decode μ.2.1 pc = .ok (.ifCond .ne off, 3)) (ht : (pc : Int) + off = (tgt : Int)) (kt : ¬ x = 0 → J g μ d K N tgt L S σ k w Q) (kf : x = 0 → J g μ d K N (pc + 3) L S σ k w Q) : J g μ d K N pc L (.int x :: S) σ k w Q := by
  intro p e R s m args below meth c Z hC hR H locs ls hW hS hl hk hw
  exact lv_if_ne hC.1 hC.2.1 hd ht (fun q => kt q p e R s m args below meth c Z hC hR H locs ls hW hS hl hk hw) (fun q => kf q p e R s m args below meth c Z hC hR H locs ls hW hS hl hk hw)
theorem J_icmp_ne {x y : Int32} {off : Int} {tgt : Nat} (hd : decode μ.2.1 pc = .ok (.if_icmp .ne off, 3)) (ht : (pc : Int) + off = (tgt : Int)) (kt : ¬ x = y → J g μ d K N tgt L S σ k w Q) (kf : x = y → J g μ d K N (pc + 3) L S σ k w Q) : J g μ d K N pc L (.int y :: .int x :: S) σ k w Q := by
  intro p e R s m args below meth c Z hC hR H locs ls hW hS hl hk hw
  exact lv_icmp_ne hC.1 hC.2.1 hd ht (fun q => kt q p e R s m args below meth c Z hC hR H locs ls hW hS hl hk hw) (fun q => kf q p e R s m args below meth c Z hC hR H locs ls hW hS hl hk hw)
theorem J_if_lt {x : Int32} {off : Int} {tgt : Nat} (hd : decode μ.2.1 pc = .ok (.ifCond .lt off, 3)) (ht : (pc : Int) + off = (tgt : Int)) (kt : x < 0 → J g μ d K N tgt L S σ k w Q) (kf : ¬ (x < 0) → J g μ d K N (pc + 3) L S σ k w Q) : J g μ d K N pc L (.int x :: S) σ k w Q := by
  intro p e R s m args below meth c Z hC hR H locs ls hW hS hl hk hw
  exact lv_if_lt hC.1 hC.2.1 hd ht (fun q => kt q p e R s m args below meth c Z hC hR H locs ls hW hS hl hk hw) (fun q => kf q p e R s m args below meth c Z hC hR H locs ls hW hS hl hk hw)
theorem J_icmp_lt {x y : Int32} {off : Int} {tgt : Nat} (hd : decode μ.2.1 pc = .ok (.if_icmp .lt off, 3)) (ht : (pc : Int) + off = (tgt : Int)) (kt : x < y → J g μ d K N tgt L S σ k w Q) (kf : ¬ (x < y) → J g μ d K N (pc + 3) L S σ k w Q) : J g μ d K N pc L (.int y :: .int x :: S) σ k w Q := by
  intro p e R s m args below meth c Z hC hR H locs ls hW hS hl hk hw
  exact lv_icmp_lt hC.1 hC.2.1 hd ht (fun q => kt q p e R s m args below meth c Z hC hR H locs ls hW hS hl hk hw) (fun q => kf q p e R s m args below meth c Z hC hR H locs ls hW hS hl hk hw)
theorem J_if_ge {x : Int32} {off : Int} {tgt : Nat} (hd : decode μ.2.1 pc = .ok (.ifCond .ge off, 3)) (ht : (pc : Int) + off = (tgt : Int)) (kt : 0 ≤ x → J g μ d K N tgt L S σ k w Q) (kf : ¬ (0 ≤ x) → J g μ d K N (pc + 3) L S σ k w Q) : J g μ d K N pc L (.int x :: S) σ k w Q := by
  intro p e R s m args below meth c Z hC hR H locs ls hW hS hl hk hw
  exact lv_if_ge hC.1 hC.2.1 hd ht (fun q => kt q p e R s m args below meth c Z hC hR H locs ls hW hS hl hk hw) (fun q => kf q p e R s m args below meth c Z hC hR H locs ls hW hS hl hk hw)
theorem J_icmp_ge {x y : Int32} {off : Int} {tgt : Nat} (hd : decode μ.2.1 pc = .ok (.if_icmp .ge off, 3)) (ht : (pc : Int) + off = (tgt : Int)) (kt : y ≤ x → J g μ d K N tgt L S σ k w Q) (kf : ¬ (y ≤ x) → J g μ d K N (pc + 3) L S σ k w Q) : J g μ d K N pc L (.int y :: .int x :: S) σ k w Q := by
  intro p e R s m args below meth c Z hC hR H locs ls hW hS hl hk hw
  exact lv_icmp_ge hC.1 hC.2.1 hd ht (fun q => kt q p e R s m args below meth c Z hC hR H locs ls hW hS hl hk hw) (fun q => kf q p e R s m args below meth c Z hC hR H locs ls hW hS hl hk hw)
theorem J_if_gt {x : Int32} {off : Int} {tgt : Nat} (hd : decode μ.2.1 pc = .ok (.ifCond .gt off, 3)) (ht : (pc : Int) + off = (tgt : Int)) (kt : 0 < x → J g μ d K N tgt L S σ k w Q) (kf : ¬ (0 < x) → J g μ d K N (pc + 3) L S σ k w Q) : J g μ d K N pc L (.int x :: S) σ k w Q := by
  intro p e R s m args below meth c Z hC hR H locs ls hW hS hl hk hw
  exact lv_if_gt hC.1 hC.2.1 hd ht (fun q => kt q p e R s m args below meth c Z hC hR H locs ls hW hS hl hk hw) (fun q => kf q p e R s m args below meth c Z hC hR H locs ls hW hS hl hk hw)
theorem J_icmp_gt {x y : Int32} {off : Int} {tgt : Nat} (hd : decode μ.2.1 pc = .ok (.if_icmp .gt off, 3)) (ht : (pc : Int) + off = (tgt : Int)) (kt : y < x → J g μ d K N tgt L S σ k w Q) (kf : ¬ (y < x) → J g μ d K N (pc + 3) L S σ k w Q) : J g μ d K N pc L (.int y :: .int x :: S) σ k w Q := by
  intro p e R s m args below meth c Z hC hR H locs ls hW hS hl hk hw
  exact lv_icmp_gt hC.1 hC.2.1 hd ht (fun q => kt q p e R s m args below meth c Z hC hR H locs ls hW hS hl hk hw) (fun q => kf q p e R s m args below meth c Z hC hR H locs ls hW hS hl hk hw)
theorem J_if_le {x : Int32} {off : Int} {tgt : Nat} (hd : decode μ.2.1 pc = .ok (.ifCond .le off, 3)) (ht : (pc : Int) + off = (tgt : Int)) (kt : x ≤ 0 → J g μ d K N tgt L S σ k w Q) (kf : ¬ (x ≤ 0) → J g μ d K N (pc + 3) L S σ k w Q) : J g μ d K N pc L (.int x :: S) σ k w Q := by
  intro p e R s m args below meth c Z hC hR H locs ls hW hS hl hk hw
  exact lv_if_le hC.1 hC.2.1 hd ht (fun q => kt q p e R s m args below meth c Z hC hR H locs ls hW hS hl hk hw) (fun q => kf q p e R s m args below meth c Z hC hR H locs ls hW hS hl hk hw)
theorem J_icmp_le {x y : Int32} {off : Int} {tgt : Nat} (hd : decode μ.2.1 pc = .ok (.if_icmp .le off, 3)) (ht : (pc : Int) + off = (tgt : Int)) (kt : x ≤ y → J g μ d K N tgt L S σ k w Q) (kf : ¬ (x ≤ y) → J g μ d K N (pc + 3) L S σ k w Q) : J g μ d K N pc L (.int y :: .int x :: S) σ k w Q := by
  intro p e R s m args below meth c Z hC hR H locs ls hW hS hl hk hw
  exact lv_icmp_le hC.1 hC.2.1 hd ht (fun q => kt q p e R s m args below meth c Z hC hR H locs ls hW hS hl hk hw) (fun q => kf q p e R s m args below meth c Z hC hR H locs ls hW hS hl hk hw)
end JR
end
section
/-! words of TB by their places; good words -/
theorem TB_good : TB.all goodWord = true := by decide +kernel
theorem TB_goodw {w : Cond} (h : w ∈ TB) : (w.onTables && w.keeps) = true ∨ ∃ ty, w = .arrayClass ty := good_of_word (List.all_eq_true.mp TB_good w h)
theorem tb {w : Cond} (i : Nat) (h : TB[i]? = some w) : w ∈ TB := List.mem_of_getElem? h
theorem memb {ws : List Cond} (ps : List Nat) (h : ws = ps.filterMap (fun i => TB[i]?)) : ∀ w ∈ ws, w ∈ TB := by
  intro w hw
  rw [h] at hw
  obtain ⟨i, -, hi⟩ := List.mem_filterMap.mp hw
  exact tb i hi
theorem good_ws {μ : MRec} {ws : List Cond} (hc : Cond.code μ.1 μ.2.1 μ.2.2.1 μ.2.2.2 ∈ TB) (h : ∀ w ∈ ws, w ∈ TB) : GoodIn TB (ws ++ wsOf μ) := by
  intro w hw
  have hm : w ∈ TB := by
    rcases List.mem_append.mp hw with q | q
    · exact h w q
    · unfold wsOf at q
      rcases List.mem_cons.mp q with q | q
      · rw [q]; exact hc
      · exact q
  exact ⟨hm, TB_goodw hm⟩
/-- selects of a private method of a class that is above the receiver's -/
theorem sel_priv {y y0 : MethodName} {C : String} {x0 : MethodName} {s : State} {args : Array Value} (hy : y.cls ≠ "java/lang/invoke/MethodHandle" ∧ y.cls ≠ "java/lang/invoke/VarHandle") (h0 : (Cond.selects C x0 y0).before args s = true) (hcl : y0.cls = y.cls)
    (hpriv : (Cond.privateMethod y).before args s = true) (hinst : (Cond.instanceMethod y).before args s = true) : (Cond.selects C y y).before args s = true := by
  obtain ⟨mk, methM, hnamed, hmethM, -, -⟩ := Cond.instanceMethod_spec hinst
  have hfound : s.methodFound? y.cls y.name y.desc = some mk := State.methodFound?_of_named hnamed hy
  simp only [Cond.before, Cond.holds, Cond.value] at h0 ⊢
  cases hc : s.vm.findClass C with
  | none => simp [hc] at h0
  | some c =>
    rw [hc] at h0
    cases hr : s.methodFound? x0.cls x0.name x0.desc with
    | none => simp [hr] at h0
    | some r0 =>
      rw [hr] at h0
      cases hn : s.methodNamed? y0 with
      | none => simp [hn] at h0
      | some m0 =>
        rw [hn] at h0
        have hsel : selectMethod {} s.vm c mk = .method mk := selectMethod_private hmethM (Cond.privateMethod_at hpriv mk methM hnamed hmethM)
        have e : m0.cls = mk.cls := Option.some.inj ((findClass_of_methodNamed hn).symm.trans (by rw [hcl]; exact findClass_of_methodNamed hnamed))
        simp only [hfound, hnamed, hsel]
        simp only [beq_iff_eq, Option.some.injEq] at h0 ⊢
        split at h0
        · rw [e] at h0
          simp only [Bool.and_eq_true] at h0
          simp [h0.2]
        · cases h0
theorem exw_ok {args : Array Value} {s : State} (h : ∀ w ∈ lw_tbl, w.before args s = true) : ∀ w ∈ TB, w.before args s = true := by
  intro w hw
  unfold TB at hw
  rcases List.mem_append.mp hw with q | q
  · exact h w (List.mem_filter.mp q).1
  · have hp : ∀ (i : Nat) (w : Cond), lw_tbl[i]? = some w → w.before args s = true := fun i w hi => h w (List.mem_of_getElem? hi)
    unfold exw at q
    simp only [List.mem_cons, List.not_mem_nil, or_false] at q
    rcases q with rfl | rfl | rfl | rfl
    · exact sel_priv (y := yX5_firstBest) (y0 := yX5_workOut) (C := RX4) (x0 := ⟨RX4, "workOut", "(II)V"⟩) (by decide +kernel) (hp 557 _ (by decide +kernel)) (by decide +kernel) (hp 569 _ (by decide +kernel)) (hp 570 _ (by decide +kernel))
    · exact sel_priv (y := yX5_sumWith) (y0 := yX5_workOut) (C := RX4) (x0 := ⟨RX4, "workOut", "(II)V"⟩) (by decide +kernel) (hp 557 _ (by decide +kernel)) (by decide +kernel) (hp 574 _ (by decide +kernel)) (hp 575 _ (by decide +kernel))
    · exact sel_priv (y := yX5_firstBest) (y0 := yX5_workOut) (C := RX7) (x0 := ⟨RX7, "workOut", "(II)V"⟩) (by decide +kernel) (hp 609 _ (by decide +kernel)) (by decide +kernel) (hp 569 _ (by decide +kernel)) (hp 570 _ (by decide +kernel))
    · exact sel_priv (y := yX5_sumWith) (y0 := yX5_workOut) (C := RX7) (x0 := ⟨RX7, "workOut", "(II)V"⟩) (by decide +kernel) (hp 609 _ (by decide +kernel)) (by decide +kernel) (hp 574 _ (by decide +kernel)) (hp 575 _ (by decide +kernel))
end
section
/-! the world of a store, its cells by handle -/
theorem cel_ge {σ : Sto} {h : Nat} {q : Nat × Nat × List (Option Nat)} (hc : cel σ h = some q) : 5 ≤ h ∧ σ.1[h - 5]? = some q := by
  unfold cel at hc
  split at hc
  · cases hc
  · exact ⟨by omega, hc⟩
theorem wl_at {g : GC} {σ : Sto} {h : Nat} {q : Nat × Nat × List (Option Nat)} (hc : cel σ h = some q) : (wl g σ)[h - 5]? = some (ad g h, ce g σ.2.1 σ.2.2 h q) := by
  obtain ⟨h5, hq⟩ := cel_ge hc
  unfold wl
  rw [List.getElem?_mapIdx, hq]
  have e : h - 5 + 5 = h := by omega
  simp [e, ad, show ¬ h < 5 by omega]
theorem wl_len (g : GC) (σ : Sto) : (wl g σ).length = σ.1.length := by simp [wl]
theorem wl_D (g : GC) (σ : Sto) : va_D (AA g) (wl g σ) := by
  have key : ∀ (i : Nat) (p : Nat × va_E), (wl g σ)[i]? = some p → p.1 = gz g + i := by
    intro i p h
    unfold wl at h
    rw [List.getElem?_mapIdx] at h
    cases hq : σ.1[i]? with
    | none => rw [hq] at h; cases h
    | some q => rw [hq] at h; cases h; rfl
  refine ⟨fun i j p q hi hj e => ?_, fun k q h => ?_⟩
  · rw [key i p hi, key j q hj] at e
    omega
  · show gz g ≤ q.1
    rw [key k q h]
    omega
theorem ce_congr {g : GC} {mi mi' : Nat → Nat → Int32} {ml ml' : Nat → Nat → Int64} {h : Nat} {q : Nat × Nat × List (Option Nat)} (h1 : mi h = mi' h) (h2 : ml h = ml' h) : ce g mi ml h q = ce g mi' ml' h q := by
  unfold ce fv
  rw [h1, h2]
theorem wl_set {g : GC} {σ σ' : Sto} {h : Nat} {q q' : Nat × Nat × List (Option Nat)} (hc : cel σ h = some q) (hsk : ∀ i : Nat, σ'.1[i]? = if i = h - 5 then some q' else σ.1[i]?) (hmi : ∀ x, x ≠ h → σ'.2.1 x = σ.2.1 x) (hml : ∀ x, x ≠ h → σ'.2.2 x = σ.2.2 x) :
    (wl g σ).set (h - 5) (ad g h, ce g σ'.2.1 σ'.2.2 h q') = wl g σ' := by
  obtain ⟨h5, hq⟩ := cel_ge hc
  have hlt : h - 5 < σ.1.length := (List.getElem?_eq_some_iff.mp hq).1
  apply List.ext_getElem?
  intro i
  rw [List.getElem?_set, wl_len]
  unfold wl
  rw [List.getElem?_mapIdx, List.getElem?_mapIdx, hsk]
  by_cases e : h - 5 = i
  · subst e
    have e5 : h - 5 + 5 = h := by omega
    simp [hlt, e5, ad, show ¬ h < 5 by omega]
  · rw [if_neg e, if_neg (fun q => e q.symm)]
    cases hi : σ.1[i]? with
    | none => rfl
    | some q0 =>
      simp only [Option.map_some]
      rw [ce_congr (hmi (i + 5) (by omega)).symm (hml (i + 5) (by omega)).symm]
theorem ce_obj {g : GC} {mi : Nat → Nat → Int32} {ml : Nat → Nat → Int64} {h ci n : Nat} {rs : List (Option Nat)} (hci : ci < 9) : ce g mi ml h (ci, n, rs) = .inr (ci, (List.range (nF ci)).map (fv g mi h ci rs)) := by simp [ce, hci]
theorem ce_int {g : GC} {mi : Nat → Nat → Int32} {ml : Nat → Nat → Int64} {h n : Nat} {rs : List (Option Nat)} : ce g mi ml h (100, n, rs) = .inl (gA g 100, n, .inl (mi h)) := by simp [ce]
theorem ce_long {g : GC} {mi : Nat → Nat → Int32} {ml : Nat → Nat → Int64} {h n : Nat} {rs : List (Option Nat)} : ce g mi ml h (101, n, rs) = .inl (gA g 101, n, .inr (.inl (ml h))) := by simp [ce]
theorem ce_102 {g : GC} {mi : Nat → Nat → Int32} {ml : Nat → Nat → Int64} {h n : Nat} {rs : List (Option Nat)} : ce g mi ml h (102, n, rs) = .inl (gA g 102, n, .inr (.inr (.inr (.inr (fun i => (rs.getD i none).map (ad g)))))) := by simp [ce]
theorem ce_103 {g : GC} {mi : Nat → Nat → Int32} {ml : Nat → Nat → Int64} {h n : Nat} {rs : List (Option Nat)} : ce g mi ml h (103, n, rs) = .inl (gA g 103, n, .inr (.inr (.inr (.inr (fun i => (rs.getD i none).map (ad g)))))) := by simp [ce]
theorem rset {σ : SK} {i : Nat} {q : Nat × Nat × List (Option Nat)} (h : σ[i]? = some q) (q' : Nat × Nat × List (Option Nat)) : ∀ j : Nat, (σ.set i q')[j]? = if j = i then some q' else σ[j]? := by
  intro j
  have hlt : i < σ.length := (List.getElem?_eq_some_iff.mp h).1
  rw [List.getElem?_set]
  by_cases e : i = j
  · subst e
    simp [hlt]
  · rw [if_neg e, if_neg (fun q => e q.symm)]
theorem rsame {σ : SK} {i : Nat} {q : Nat × Nat × List (Option Nat)} (h : σ[i]? = some q) : ∀ j : Nat, σ[j]? = if j = i then some q else σ[j]? := by
  intro j
  by_cases e : j = i
  · subst e
    simp [h]
  · rw [if_neg e]
theorem up2_ne {α : Type} {f : Nat → Nat → α} {h k : Nat} {v : α} {x : Nat} (e : x ≠ h) : up2 f h k v x = f x := if_neg e
theorem up2_at {α : Type} {f : Nat → Nat → α} {h k : Nat} {v : α} : up2 f h k v h = fun k' => if k' = k then v else f h k' := if_pos rfl
/-! classes and fields of the pool -/
def CLS (ci : Nat) (C : String) (T : u_T) (n : Nat) (t0 : Nat → FieldType) : Prop :=
  vwCl[ci]? = some (C, T, n) ∧ ci < 9 ∧ n = nF ci ∧ (∀ w ∈ u_ws C T n, w ∈ TB) ∧ (∀ k, k < n → parseFieldDescriptor (T k).2.2.1 = some (t0 k)) ∧ (∀ a, a < n → ∀ b, b < n → a ≠ b → (T a).2.1 ≠ (T b).2.1)
def FLD (own : String) (idx ci k : Nat) (ty : FieldType) (fin : Bool) : Prop :=
  ∃ (C : String) (T : u_T) (n : Nat) (t0 : Nat → FieldType) (ref : String), CLS ci C T n t0 ∧ k < n ∧ t0 k = ty ∧ (T k).2.2.2 = fin ∧ (fin = true → (T k).1 = own) ∧ Cond.fieldLink own idx ref (T k).2.1 (T k).2.2.1 ∈ TB ∧ (ref = (T k).1 ∨ Cond.sameField ref (T k).1 (T k).2.1 (T k).2.2.1 ∈ TB)
theorem FLD.same {own : String} {s : State} {args : Array Value} {ref o n d : String} (hts : ∀ w ∈ TB, w.before args s = true) (h : ref = o ∨ Cond.sameField ref o n d ∈ TB) : ∀ x, s.fieldFound? o n d = some x → s.fieldFound? ref n d = some x := by
  intro x hx
  rcases h with rfl | h
  · exact hx
  · exact u_same (hts _ h) x hx
theorem fv_int {g : GC} {mi : Nat → Nat → Int32} {h ci k : Nat} {rs : List (Option Nat)} (hr : isRf ci k = false) : fv g mi h ci rs k = .int (mi h k) := by simp [fv, hr]
theorem fv_ref {g : GC} {mi : Nat → Nat → Int32} {h ci k r : Nat} {rs : List (Option Nat)} (hr : isRf ci k = true) (hk : rs[k]? = some (some r)) : fv g mi h ci rs k = .ref (ad g r) := by simp [fv, hr, List.getD, hk, va_rf]
theorem fv_setI {g : GC} {mi : Nat → Nat → Int32} {h ci kf n : Nat} {rs : List (Option Nat)} {v : Int32} (hr : isRf ci kf = false) (hk : kf < n) : ((List.range n).map (fv g mi h ci rs)).set kf (.int v) = (List.range n).map (fv g (up2 mi h kf v) h ci rs) := by
  apply List.ext_getElem?
  intro i
  rw [List.getElem?_set, List.length_map, List.length_range, List.getElem?_map, List.getElem?_map]
  by_cases e : kf = i
  · subst e
    rw [if_pos rfl, if_pos hk, List.getElem?_range hk, Option.map_some, fv_int hr, up2_at]
    simp
  · rw [if_neg e]
    by_cases hi : i < n
    · rw [List.getElem?_range hi, Option.map_some, Option.map_some]
      unfold fv
      rw [up2_at]
      simp [show ¬ i = kf from fun q => e q.symm]
    · rw [List.getElem?_eq_none (by rw [List.length_range]; omega)]
      rfl
theorem fv_setR {g : GC} {mi : Nat → Nat → Int32} {h ci kf n r : Nat} {rs : List (Option Nat)} (hr : isRf ci kf = true) (hk : kf < n) (hl : kf < rs.length) : ((List.range n).map (fv g mi h ci rs)).set kf (.ref (ad g r)) = (List.range n).map (fv g mi h ci (rs.set kf (some r))) := by
  apply List.ext_getElem?
  intro i
  rw [List.getElem?_set, List.length_map, List.length_range, List.getElem?_map, List.getElem?_map]
  by_cases e : kf = i
  · subst e
    rw [if_pos rfl, if_pos hk, List.getElem?_range hk, Option.map_some, fv_ref (r := r) hr (by rw [List.getElem?_set]; simp [hl])]
  · rw [if_neg e]
    by_cases hi : i < n
    · rw [List.getElem?_range hi, Option.map_some, Option.map_some]
      unfold fv
      rw [List.getD, List.getD, List.getElem?_set, if_neg e]
    · rw [List.getElem?_eq_none (by rw [List.length_range]; omega)]
      rfl
section JF
variable {g : GC} {μ : MRec} {d K N pc : Nat} {L : List (Nat × Value)} {S : List Value} {σ : Sto} {k w : Nat} {Q : Option Value → Sto → Prop}
theorem J_getI {idx ci kf h n0 : Nat} {ty : FieldType} {fin : Bool} {rs : List (Option Nat)} {v : Int32} (hF : FLD μ.1.cls idx ci kf ty fin) (hd : decode μ.2.1 pc = .ok (.getfield idx, 3)) (hc : cel σ h = some (ci, n0, rs)) (hr : isRf ci kf = false) (hv : σ.2.1 h kf = v)
    (kk : J g μ d K N (pc + 3) L (.int v :: S) σ k w Q) : J g μ d K N pc L (.ref h :: S) σ k w Q := by
  intro p e R s m args below meth c Z hC hR H locs ls hW hS hl hk hw
  obtain ⟨C, T, n, t0, ref, ⟨c1, c2, c3, c4, c5, c6⟩, f1, f2, f3, f4, f5, f6⟩ := hF
  have hts := hC.2.2.2.2.1
  have hat := wl_at (g := g) hc
  rw [ce_obj c2] at hat
  refine va_get (D := gD g) (tys := tysG g) (ci := ci) (v := .int v) (C := C) (T := T) (N := n) hC.1 hC.2.1 hts c4 hC.2.2.2.1 hC.2.2.2.2.2.2.2.2.1.1 hW.1 (h - 5) hat c1 kf f1 (hts _ f5) (FLD.same (own := C) hts f6) ?_ hd (kk p e R s m args below meth c Z hC hR H locs ls hW hS hl hk hw)
  rw [List.getElem?_map, List.getElem?_range (by rw [← c3]; exact f1), Option.map_some, fv_int hr, hv]
theorem J_getR {idx ci kf h n0 r : Nat} {ty : FieldType} {fin : Bool} {rs : List (Option Nat)} (hF : FLD μ.1.cls idx ci kf ty fin) (hd : decode μ.2.1 pc = .ok (.getfield idx, 3)) (hc : cel σ h = some (ci, n0, rs)) (hr : isRf ci kf = true) (hv : rs[kf]? = some (some r))
    (kk : J g μ d K N (pc + 3) L (.ref r :: S) σ k w Q) : J g μ d K N pc L (.ref h :: S) σ k w Q := by
  intro p e R s m args below meth c Z hC hR H locs ls hW hS hl hk hw
  obtain ⟨C, T, n, t0, ref, ⟨c1, c2, c3, c4, c5, c6⟩, f1, f2, f3, f4, f5, f6⟩ := hF
  have hts := hC.2.2.2.2.1
  have hat := wl_at (g := g) hc
  rw [ce_obj c2] at hat
  refine va_get (D := gD g) (tys := tysG g) (ci := ci) (v := .ref (ad g r)) (C := C) (T := T) (N := n) hC.1 hC.2.1 hts c4 hC.2.2.2.1 hC.2.2.2.2.2.2.2.2.1.1 hW.1 (h - 5) hat c1 kf f1 (hts _ f5) (FLD.same (own := C) hts f6) ?_ hd (kk p e R s m args below meth c Z hC hR H locs ls hW hS hl hk hw)
  rw [List.getElem?_map, List.getElem?_range (by rw [← c3]; exact f1), Option.map_some, fv_ref hr hv]
theorem J_putI {idx ci kf h n0 : Nat} {ty : FieldType} {rs : List (Option Nat)} {v : Int32} (hF : FLD μ.1.cls idx ci kf ty false) (hd : decode μ.2.1 pc = .ok (.putfield idx, 3)) (hc : cel σ h = some (ci, n0, rs)) (hr : isRf ci kf = false) (hn : narrow ty (.int v) = .int v) (hf : fits ty (.int v) = true)
    (kk : J g μ d K N (pc + 3) L S (σ.1, up2 σ.2.1 h kf v, σ.2.2) k w Q) : J g μ d K N pc L (.int v :: .ref h :: S) σ k w Q := by
  intro p e R s m args below meth c Z hC hR H locs ls hW hS hl hk hw
  obtain ⟨C, T, n, t0, ref, ⟨c1, c2, c3, c4, c5, c6⟩, f1, f2, f3, f4, f5, f6⟩ := hF
  have hts := hC.2.2.2.2.1
  have hat := wl_at (g := g) hc
  rw [ce_obj c2] at hat
  refine va_put (D := gD g) (tys := tysG g) (ci := ci) (v := .int v) (C := C) (T := T) (N := n) (A := AA g) hC.1 hC.2.1 hts c4 t0 c5 c6 hC.2.2.2.1 hC.2.2.2.2.2.2.2.2.1.1 hW.1 (wl_D g σ) hS (h - 5) hat c1 kf f1 (hts _ f5) (FLD.same (own := C) hts f6) f3 (by rw [c5 kf f1, f2]) hn hf (by rw [List.length_map, List.length_range, ← c3]; exact f1) hd (fun H1 locs1 hP1 hD1 hS1 => ?_)
  refine kk p e R s m args below meth c Z hC hR H1 locs1 ls ⟨?_, hW.2⟩ hS1 hl hk hw
  rw [fv_setI hr (by rw [← c3]; exact f1), ← ce_obj (ml := σ.2.2) (n := n0) c2] at hP1
  unfold World
  rw [← wl_set (σ' := (σ.1, up2 σ.2.1 h kf v, σ.2.2)) hc (rsame (cel_ge hc).2) (fun x hx => up2_ne hx) (fun _ _ => rfl)]
  exact hP1
theorem J_putR {idx ci kf h n0 r : Nat} {ty : FieldType} {rs : List (Option Nat)} (hF : FLD μ.1.cls idx ci kf ty false) (hd : decode μ.2.1 pc = .ok (.putfield idx, 3)) (hc : cel σ h = some (ci, n0, rs)) (hr : isRf ci kf = true) (hn : ∀ a, narrow ty (.ref a) = .ref a) (hf : ∀ a, fits ty (.ref a) = true) (hl0 : kf < rs.length)
    (kk : J g μ d K N (pc + 3) L S (σ.1.set (h - 5) (ci, n0, rs.set kf (some r)), σ.2.1, σ.2.2) k w Q) : J g μ d K N pc L (.ref r :: .ref h :: S) σ k w Q := by
  intro p e R s m args below meth c Z hC hR H locs ls hW hS hl hk hw
  obtain ⟨C, T, n, t0, ref, ⟨c1, c2, c3, c4, c5, c6⟩, f1, f2, f3, f4, f5, f6⟩ := hF
  have hts := hC.2.2.2.2.1
  have hat := wl_at (g := g) hc
  rw [ce_obj c2] at hat
  refine va_put (D := gD g) (tys := tysG g) (ci := ci) (v := .ref (ad g r)) (C := C) (T := T) (N := n) (A := AA g) hC.1 hC.2.1 hts c4 t0 c5 c6 hC.2.2.2.1 hC.2.2.2.2.2.2.2.2.1.1 hW.1 (wl_D g σ) hS (h - 5) hat c1 kf f1 (hts _ f5) (FLD.same (own := C) hts f6) f3 (by rw [c5 kf f1, f2]) (hn _) (hf _) (by rw [List.length_map, List.length_range, ← c3]; exact f1) hd (fun H1 locs1 hP1 hD1 hS1 => ?_)
  refine kk p e R s m args below meth c Z hC hR H1 locs1 ls ⟨?_, by rw [List.length_set]; exact hW.2⟩ hS1 hl hk hw
  rw [fv_setR hr (by rw [← c3]; exact f1) hl0, ← ce_obj (ml := σ.2.2) (n := n0) c2] at hP1
  unfold World
  rw [← wl_set (σ' := (σ.1.set (h - 5) (ci, n0, rs.set kf (some r)), σ.2.1, σ.2.2)) hc (rset (cel_ge hc).2 _) (fun _ _ => rfl) (fun _ _ => rfl)]
  exact hP1
theorem J_putF {idx ci kf h n0 r : Nat} {ty : FieldType} {rs : List (Option Nat)} (hF : FLD μ.1.cls idx ci kf ty true) (hin : μ.1.name = "<init>") (hd : decode μ.2.1 pc = .ok (.putfield idx, 3)) (hc : cel σ h = some (ci, n0, rs)) (hr : isRf ci kf = true) (hn : ∀ a, narrow ty (.ref a) = .ref a) (hf : ∀ a, fits ty (.ref a) = true) (hl0 : kf < rs.length)
    (kk : J g μ d K N (pc + 3) L S (σ.1.set (h - 5) (ci, n0, rs.set kf (some r)), σ.2.1, σ.2.2) k w Q) : J g μ d K N pc L (.ref r :: .ref h :: S) σ k w Q := by
  intro p e R s m args below meth c Z hC hR H locs ls hW hS hl hk hw
  obtain ⟨C, T, n, t0, ref, ⟨c1, c2, c3, c4, c5, c6⟩, f1, f2, f3, f4, f5, f6⟩ := hF
  have hts := hC.2.2.2.2.1
  have hat := wl_at (g := g) hc
  rw [ce_obj c2] at hat
  refine va_putF (D := gD g) (tys := tysG g) (ci := ci) (v := .ref (ad g r)) (C := C) (T := T) (N := n) (A := AA g) hC.1 hC.2.1 hts c4 t0 c5 c6 hC.2.2.2.1 hC.2.2.2.2.2.2.2.2.1.1 hW.1 (wl_D g σ) hS (h - 5) hat c1 kf f1 (hts _ f5) (FLD.same (own := C) hts f6) f3 (hC.2.2.2.2.2.2.2.1.trans hin) (f4 rfl) (by rw [c5 kf f1, f2]) (hn _) (hf _) (by rw [List.length_map, List.length_range, ← c3]; exact f1) hd (fun H1 locs1 hP1 hD1 hS1 => ?_)
  refine kk p e R s m args below meth c Z hC hR H1 locs1 ls ⟨?_, by rw [List.length_set]; exact hW.2⟩ hS1 hl hk hw
  rw [fv_setR hr (by rw [← c3]; exact f1) hl0, ← ce_obj (ml := σ.2.2) (n := n0) c2] at hP1
  unfold World
  rw [← wl_set (σ' := (σ.1.set (h - 5) (ci, n0, rs.set kf (some r)), σ.2.1, σ.2.2)) hc (rset (cel_ge hc).2 _) (fun _ _ => rfl) (fun _ _ => rfl)]
  exact hP1
theorem J_iald {h n0 : Nat} {rs : List (Option Nat)} {i v : Int32} (hd : decode μ.2.1 pc = .ok (.iaload, 1)) (hc : cel σ h = some (100, n0, rs)) (hi : vp_in i n0) (hv : σ.2.1 h i.toNatClampNeg = v)
    (kk : J g μ d K N (pc + 1) L (.int v :: S) σ k w Q) : J g μ d K N pc L (.int i :: .ref h :: S) σ k w Q := by
  intro p e R s m args below meth c Z hC hR H locs ls hW hS hl hk hw
  have hat := wl_at (g := g) hc
  rw [ce_int] at hat
  subst hv
  exact va_iald (D := gD g) (tys := tysG g) hC.1 hC.2.1 hC.2.2.2.2.2.2.2.2.1.1 hW.1 (h - 5) 0 hat rfl hi hd (kk p e R s m args below meth c Z hC hR H locs ls hW hS hl hk hw)
theorem J_lald {h n0 : Nat} {rs : List (Option Nat)} {i : Int32} {v : Int64} (hd : decode μ.2.1 pc = .ok (.laload, 1)) (hc : cel σ h = some (101, n0, rs)) (hi : vp_in i n0) (hv : σ.2.2 h i.toNatClampNeg = v)
    (kk : J g μ d K N (pc + 1) L (.long v :: S) σ k w Q) : J g μ d K N pc L (.int i :: .ref h :: S) σ k w Q := by
  intro p e R s m args below meth c Z hC hR H locs ls hW hS hl hk hw
  have hat := wl_at (g := g) hc
  rw [ce_long] at hat
  subst hv
  exact va_lald (D := gD g) (tys := tysG g) hC.1 hC.2.1 hC.2.2.2.2.2.2.2.2.1.1 hW.1 (h - 5) 1 hat rfl hi hd (kk p e R s m args below meth c Z hC hR H locs ls hW hS hl hk hw)
theorem J_iast {h n0 : Nat} {rs : List (Option Nat)} {i x : Int32} (hd : decode μ.2.1 pc = .ok (.iastore, 1)) (hc : cel σ h = some (100, n0, rs)) (hi : vp_in i n0)
    (kk : J g μ d K N (pc + 1) L S (σ.1, up2 σ.2.1 h i.toNatClampNeg x, σ.2.2) k w Q) : J g μ d K N pc L (.int x :: .int i :: .ref h :: S) σ k w Q := by
  intro p e R s m args below meth c Z hC hR H locs ls hW hS hl hk hw
  have hat := wl_at (g := g) hc
  rw [ce_int] at hat
  refine va_iast (D := gD g) (tys := tysG g) (A := AA g) hC.1 hC.2.1 hC.2.2.2.2.2.2.2.2.1.1 hW.1 (wl_D g σ) hS (h - 5) 0 hat rfl hi hd (fun H1 locs1 hP1 hD1 hS1 => ?_)
  refine kk p e R s m args below meth c Z hC hR H1 locs1 ls ⟨?_, hW.2⟩ hS1 hl hk hw
  have e2 : upd (σ.2.1 h) i.toNatClampNeg x = up2 σ.2.1 h i.toNatClampNeg x h := by rw [up2_at]; rfl
  rw [e2, ← ce_int (ml := σ.2.2) (rs := rs)] at hP1
  unfold World
  rw [← wl_set (σ' := (σ.1, up2 σ.2.1 h i.toNatClampNeg x, σ.2.2)) hc (rsame (cel_ge hc).2) (fun _ hx => up2_ne hx) (fun _ _ => rfl)]
  exact hP1
theorem J_last {h n0 : Nat} {rs : List (Option Nat)} {i : Int32} {x : Int64} (hd : decode μ.2.1 pc = .ok (.lastore, 1)) (hc : cel σ h = some (101, n0, rs)) (hi : vp_in i n0)
    (kk : J g μ d K N (pc + 1) L S (σ.1, σ.2.1, up2 σ.2.2 h i.toNatClampNeg x) k w Q) : J g μ d K N pc L (.long x :: .int i :: .ref h :: S) σ k w Q := by
  intro p e R s m args below meth c Z hC hR H locs ls hW hS hl hk hw
  have hat := wl_at (g := g) hc
  rw [ce_long] at hat
  refine va_last (D := gD g) (tys := tysG g) (A := AA g) hC.1 hC.2.1 hC.2.2.2.2.2.2.2.2.1.1 hW.1 (wl_D g σ) hS (h - 5) 1 hat rfl hi hd (fun H1 locs1 hP1 hD1 hS1 => ?_)
  refine kk p e R s m args below meth c Z hC hR H1 locs1 ls ⟨?_, hW.2⟩ hS1 hl hk hw
  have e2 : vp_updL (σ.2.2 h) i.toNatClampNeg x = up2 σ.2.2 h i.toNatClampNeg x h := by rw [up2_at]; rfl
  rw [e2, ← ce_long (mi := σ.2.1) (rs := rs)] at hP1
  unfold World
  rw [← wl_set (σ' := (σ.1, σ.2.1, up2 σ.2.2 h i.toNatClampNeg x)) hc (rsame (cel_ge hc).2) (fun _ _ => rfl) (fun _ hx => up2_ne hx)]
  exact hP1
theorem J_aald {kd h n0 r : Nat} {rs : List (Option Nat)} {i : Int32} (hkd : kd = 102 ∨ kd = 103) (hd : decode μ.2.1 pc = .ok (.aaload, 1)) (hc : cel σ h = some (kd, n0, rs)) (hi : vp_in i n0) (hv : rs[i.toNatClampNeg]? = some (some r))
    (kk : J g μ d K N (pc + 1) L (.ref r :: S) σ k w Q) : J g μ d K N pc L (.int i :: .ref h :: S) σ k w Q := by
  intro p e R s m args below meth c Z hC hR H locs ls hW hS hl hk hw
  have hat := wl_at (g := g) hc
  have hlt : i.toNatClampNeg < n0 := Nat.not_le.mp fun q => hi (Or.inr q)
  have hval : va_rf ((rs.getD i.toNatClampNeg none).map (ad g)) = .ref (ad g r) := by simp [List.getD, hv, va_rf]
  have hK := hC.2.2.2.2.2.2.2.2.1.1
  rcases hkd with rfl | rfl
  · rw [ce_102] at hat
    refine W.aald (v := va_rf ((rs.getD i.toNatClampNeg none).map (ad g))) (ty := .array .int) hC.1 hC.2.1 (hW.1 _ _ hat) ((hK.2 2 _ rfl).1 n0 (fun j => va_rf ((rs.getD j none).map (ad g)))) rfl (fun q => by cases q) (by show ¬ (i < 0 ∨ (arrV _ _ _).slots.size ≤ _); rw [arrV_size]; exact hi) (by show (arrV _ _ _).slots[_]? = _; rw [arrV_read _ _ hlt]) rfl rfl hd ?_
    rw [hval]
    exact kk p e R s m args below meth c Z hC hR H locs ls hW hS hl hk hw
  · rw [ce_103] at hat
    refine W.aald (v := va_rf ((rs.getD i.toNatClampNeg none).map (ad g))) (ty := .object "WithOneHand$Shelf") hC.1 hC.2.1 (hW.1 _ _ hat) ((hK.2 3 _ rfl).1 n0 (fun j => va_rf ((rs.getD j none).map (ad g)))) rfl (fun q => by cases q) (by show ¬ (i < 0 ∨ (arrV _ _ _).slots.size ≤ _); rw [arrV_size]; exact hi) (by show (arrV _ _ _).slots[_]? = _; rw [arrV_read _ _ hlt]) rfl rfl hd ?_
    rw [hval]
    exact kk p e R s m args below meth c Z hC hR H locs ls hW hS hl hk hw
theorem J_aast {h n0 v n1 : Nat} {rs rs1 : List (Option Nat)} {i : Int32} (hd : decode μ.2.1 pc = .ok (.aastore, 1)) (hc : cel σ h = some (103, n0, rs)) (hc1 : cel σ v = some (5, n1, rs1)) (hi : vp_in i n0) (hl0 : rs.length = n0)
    (kk : J g μ d K N (pc + 1) L S (σ.1.set (h - 5) (103, n0, rs.set i.toNatClampNeg (some v)), σ.2.1, σ.2.2) k w Q) : J g μ d K N pc L (.ref v :: .int i :: .ref h :: S) σ k w Q := by
  intro p e R s m args below meth c Z hC hR H locs ls hW hS hl hk hw
  have hat := wl_at (g := g) hc
  have hat1 := wl_at (g := g) hc1
  rw [ce_103] at hat
  rw [ce_obj (by decide)] at hat1
  have hlt : i.toNatClampNeg < n0 := Nat.not_le.mp fun q => hi (Or.inr q)
  refine va_astq (D := gD g) (tys := tysG g) (A := AA g) (ci := 5) (r := (RX6, TX6, 4)) hC.1 hC.2.1 hC.2.2.2.2.2.2.2.2.1.1 hW.1 (wl_D g σ) hS (h - 5) 3 (v - 5) hat rfl hat1 rfl hi hd (fun H1 locs1 hP1 hD1 hS1 => ?_)
  refine kk p e R s m args below meth c Z hC hR H1 locs1 ls ⟨?_, by rw [List.length_set]; exact hW.2⟩ hS1 hl hk hw
  have e2 : va_up (fun i => (rs.getD i none).map (ad g)) i.toNatClampNeg (some (ad g v)) = (fun j => ((rs.set i.toNatClampNeg (some v)).getD j none).map (ad g)) := by
    funext j
    show (if j = i.toNatClampNeg then some (ad g v) else (rs.getD j none).map (ad g)) = ((rs.set i.toNatClampNeg (some v)).getD j none).map (ad g)
    by_cases e : j = i.toNatClampNeg
    · subst e
      simp [List.getD, List.getElem?_set, hl0, hlt]
    · have e3 : ¬ i.toNatClampNeg = j := fun q => e q.symm
      simp [List.getD, List.getElem?_set, e, e3]
  rw [e2, ← ce_103 (mi := σ.2.1) (ml := σ.2.2) (h := h)] at hP1
  unfold World
  rw [← wl_set (σ' := (σ.1.set (h - 5) (103, n0, rs.set i.toNatClampNeg (some v)), σ.2.1, σ.2.2)) hc (rset (cel_ge hc).2 _) (fun _ _ => rfl) (fun _ _ => rfl)]
  exact hP1
theorem J_alenI {h n0 : Nat} {rs : List (Option Nat)} {v : Int32} (hd : decode μ.2.1 pc = .ok (.arraylength, 1)) (hc : cel σ h = some (100, n0, rs)) (hv : Int32.ofNat n0 = v)
    (kk : J g μ d K N (pc + 1) L (.int v :: S) σ k w Q) : J g μ d K N pc L (.ref h :: S) σ k w Q := by
  intro p e R s m args below meth c Z hC hR H locs ls hW hS hl hk hw
  have hat := wl_at (g := g) hc
  rw [ce_int] at hat
  exact va_alen (D := gD g) (tys := tysG g) hC.1 hC.2.1 hC.2.2.2.2.2.2.2.2.1.1 hW.1 (h - 5) 0 hat rfl hv hd (kk p e R s m args below meth c Z hC hR H locs ls hW hS hl hk hw)
theorem J_alenL {h n0 : Nat} {rs : List (Option Nat)} {v : Int32} (hd : decode μ.2.1 pc = .ok (.arraylength, 1)) (hc : cel σ h = some (101, n0, rs)) (hv : Int32.ofNat n0 = v)
    (kk : J g μ d K N (pc + 1) L (.int v :: S) σ k w Q) : J g μ d K N pc L (.ref h :: S) σ k w Q := by
  intro p e R s m args below meth c Z hC hR H locs ls hW hS hl hk hw
  have hat := wl_at (g := g) hc
  rw [ce_long] at hat
  exact va_alen (D := gD g) (tys := tysG g) hC.1 hC.2.1 hC.2.2.2.2.2.2.2.2.1.1 hW.1 (h - 5) 1 hat rfl hv hd (kk p e R s m args below meth c Z hC hR H locs ls hW hS hl hk hw)
theorem ad_lt {g : GC} {j : Nat} (h : j < 5) : ad g j = gS g j := if_pos h
theorem J_gets {idx j : Nat} (hj : j < 4) (hw0 : Cond.fieldLink μ.1.cls idx (SC j).1 (SC j).2 "[I" ∈ TB) (hd : decode μ.2.1 pc = .ok (.getstatic idx, 3))
    (kk : J g μ d K N (pc + 3) L (.ref j :: S) σ k w Q) : J g μ d K N pc L S σ k w Q := by
  intro p e R s m args below meth c Z hC hR H locs ls hW hS hl hk hw
  have hk2 := kk p e R s m args below meth c Z hC hR H locs ls hW hS hl hk hw
  refine va_gets hC.1 hC.2.1 (hC.2.2.2.2.2.2.2.2.1.2.2.1 j hj) hS hC.2.2.2.1 (hC.2.2.2.2.1 _ hw0) (fun _ h9 => h9) hd ?_
  rw [← ad_lt (g := g) (show j < 5 by omega)]
  exact hk2
theorem J_ialdS {j : Nat} {i v : Int32} (hj : j < 4) (hd : decode μ.2.1 pc = .ok (.iaload, 1)) (hi : vp_in i (SA j).length) (hv : (SA j).getD i.toNatClampNeg 0 = v)
    (kk : J g μ d K N (pc + 1) L (.int v :: S) σ k w Q) : J g μ d K N pc L (.int i :: .ref j :: S) σ k w Q := by
  intro p e R s m args below meth c Z hC hR H locs ls hW hS hl hk hw
  show W p (gL g) e R s m args below meth c H locs k w Z (F0 m pc ls (.int i :: .ref (ad g j) :: S.map (rv g)))
  rw [ad_lt (show j < 5 by omega)]
  exact va_ti hC.1 hC.2.1 (hC.2.2.2.2.2.2.2.2.1.2.2.2.1 j hj) hS hi (by rw [hv]; rfl) hd (kk p e R s m args below meth c Z hC hR H locs ls hW hS hl hk hw)
theorem J_alenS {j : Nat} {v : Int32} (hj : j < 4) (hd : decode μ.2.1 pc = .ok (.arraylength, 1)) (hv : Int32.ofNat (SA j).length = v)
    (kk : J g μ d K N (pc + 1) L (.int v :: S) σ k w Q) : J g μ d K N pc L (.ref j :: S) σ k w Q := by
  intro p e R s m args below meth c Z hC hR H locs ls hW hS hl hk hw
  show W p (gL g) e R s m args below meth c H locs k w Z (F0 m pc ls (.ref (ad g j) :: S.map (rv g)))
  rw [ad_lt (show j < 5 by omega)]
  exact va_tlen hC.1 hC.2.1 (hC.2.2.2.2.2.2.2.2.1.2.2.2.1 j hj) hS hv hd (kk p e R s m args below meth c Z hC hR H locs ls hW hS hl hk hw)
theorem J_ialdX {i v : Int32} (hd : decode μ.2.1 pc = .ok (.iaload, 1)) (hi : vp_in i (gN g)) (hv : gX g i.toNatClampNeg = v)
    (kk : J g μ d K N (pc + 1) L (.int v :: S) σ k w Q) : J g μ d K N pc L (.int i :: .ref 4 :: S) σ k w Q := by
  intro p e R s m args below meth c Z hC hR H locs ls hW hS hl hk hw
  show W p (gL g) e R s m args below meth c H locs k w Z (F0 m pc ls (.int i :: .ref (ad g 4) :: S.map (rv g)))
  rw [ad_lt (by decide)]
  obtain ⟨-, e2, -, -, e5, e6, -⟩ := hC.2.2.2.2.2.2.2.2.1
  subst hv
  exact va_sld hC.1 hC.2.1 e5 (Nat.lt_of_lt_of_le e6 e2) (show ¬ gz g ≤ gS g 4 from Nat.not_le.mpr e6) hS hi hd (kk p e R s m args below meth c Z hC hR H locs ls hW hS hl hk hw)
theorem J_alenX {v : Int32} (hd : decode μ.2.1 pc = .ok (.arraylength, 1)) (hv : Int32.ofNat (gN g) = v)
    (kk : J g μ d K N (pc + 1) L (.int v :: S) σ k w Q) : J g μ d K N pc L (.ref 4 :: S) σ k w Q := by
  intro p e R s m args below meth c Z hC hR H locs ls hW hS hl hk hw
  show W p (gL g) e R s m args below meth c H locs k w Z (F0 m pc ls (.ref (ad g 4) :: S.map (rv g)))
  rw [ad_lt (by decide)]
  obtain ⟨-, e2, -, -, e5, e6, -⟩ := hC.2.2.2.2.2.2.2.2.1
  subst hv
  exact va_slen hC.1 hC.2.1 e5 (Nat.lt_of_lt_of_le e6 e2) (show ¬ gz g ≤ gS g 4 from Nat.not_le.mpr e6) hS hd (kk p e R s m args below meth c Z hC hR H locs ls hW hS hl hk hw)
theorem J_copyI {idx h0 h1 n0 n1 : Nat} {rs0 rs1 : List (Option Nat)} {sp dp n : Int32} (hw0 : Cond.methodLink μ.1.cls idx arraycopyName ∈ TB) (hd : decode μ.2.1 pc = .ok (.invokestatic idx, 3)) (hc0 : cel σ h0 = some (100, n0, rs0)) (hc1 : cel σ h1 = some (100, n1, rs1))
    (a1 : ¬ sp < 0) (a2 : ¬ dp < 0) (a3 : ¬ n < 0) (a4 : sp.toNatClampNeg + n.toNatClampNeg ≤ n0) (a5 : dp.toNatClampNeg + n.toNatClampNeg ≤ n1) (hS8 : (S.map fun v => v.category).sum ≤ 8)
    (kk : J g μ d K N (pc + 3) L S (σ.1, rs2 σ.2.1 h1 (va_cpy (σ.2.1 h0) (σ.2.1 h1) sp.toNatClampNeg dp.toNatClampNeg n.toNatClampNeg), σ.2.2) k w Q) : J g μ d K N pc L (.int n :: .int dp :: .ref h1 :: .int sp :: .ref h0 :: S) σ k w Q := by
  intro p e R s m args below meth c Z hC hR H locs ls hW hS hl hk hw
  have hat0 := wl_at (g := g) hc0
  have hat1 := wl_at (g := g) hc1
  rw [ce_int] at hat0 hat1
  have hts := hC.2.2.2.2.1
  have hfr := hC.2.2.2.2.2.2.2.2.2
  refine va_copyi (D := gD g) (tys := tysG g) (A := AA g) (ty := .int) hC.1 hC.2.1 (hC.2.2.1.trans hl.1.symm) hC.2.2.2.1 (hts _ hw0) (hts _ (tb 410 (by decide +kernel))) (hts _ (tb 409 (by decide +kernel))) (hts _ (tb 113 (by decide +kernel))) hC.2.2.2.2.2.2.2.2.1.1 hW.1 (wl_D g σ) hS (h0 - 5) (h1 - 5) 0 0 hat0 hat1 rfl rfl rfl a1 a2 a3 a4 a5 (fun _ _ => rfl) (by omega) ?_ hd (fun H1 locs1 hP1 hD1 hS1 => ?_)
  · rw [rv_cats]
    have h9 : nativeFrameWords "java/lang/System" "arraycopy" 5 + 11 ≤ 32 := by decide +kernel
    omega
  · refine kk p e R s m args below meth c Z hC hR H1 locs1 ls ⟨?_, hW.2⟩ hS1 hl hk hw
    have e2 : va_cpy (σ.2.1 h0) (σ.2.1 h1) sp.toNatClampNeg dp.toNatClampNeg n.toNatClampNeg = rs2 σ.2.1 h1 (va_cpy (σ.2.1 h0) (σ.2.1 h1) sp.toNatClampNeg dp.toNatClampNeg n.toNatClampNeg) h1 := (if_pos rfl).symm
    rw [e2, ← ce_int (ml := σ.2.2) (rs := rs1)] at hP1
    unfold World
    rw [← wl_set (σ' := (σ.1, rs2 σ.2.1 h1 (va_cpy (σ.2.1 h0) (σ.2.1 h1) sp.toNatClampNeg dp.toNatClampNeg n.toNatClampNeg), σ.2.2)) hc1 (rsame (cel_ge hc1).2) (fun _ hx => if_neg hx) (fun _ _ => rfl)]
    exact hP1
theorem J_copyL {idx h0 h1 n0 n1 : Nat} {rs0 rs1 : List (Option Nat)} {sp dp n : Int32} (hw0 : Cond.methodLink μ.1.cls idx arraycopyName ∈ TB) (hd : decode μ.2.1 pc = .ok (.invokestatic idx, 3)) (hc0 : cel σ h0 = some (101, n0, rs0)) (hc1 : cel σ h1 = some (101, n1, rs1))
    (a1 : ¬ sp < 0) (a2 : ¬ dp < 0) (a3 : ¬ n < 0) (a4 : sp.toNatClampNeg + n.toNatClampNeg ≤ n0) (a5 : dp.toNatClampNeg + n.toNatClampNeg ≤ n1) (hS8 : (S.map fun v => v.category).sum ≤ 8)
    (kk : J g μ d K N (pc + 3) L S (σ.1, σ.2.1, rs2 σ.2.2 h1 (va_cpy (σ.2.2 h0) (σ.2.2 h1) sp.toNatClampNeg dp.toNatClampNeg n.toNatClampNeg)) k w Q) : J g μ d K N pc L (.int n :: .int dp :: .ref h1 :: .int sp :: .ref h0 :: S) σ k w Q := by
  intro p e R s m args below meth c Z hC hR H locs ls hW hS hl hk hw
  have hat0 := wl_at (g := g) hc0
  have hat1 := wl_at (g := g) hc1
  rw [ce_long] at hat0 hat1
  have hts := hC.2.2.2.2.1
  have hfr := hC.2.2.2.2.2.2.2.2.2
  refine va_copyl (D := gD g) (tys := tysG g) (A := AA g) (ty := .long) hC.1 hC.2.1 (hC.2.2.1.trans hl.1.symm) hC.2.2.2.1 (hts _ hw0) (hts _ (tb 410 (by decide +kernel))) (hts _ (tb 409 (by decide +kernel))) (hts _ (tb 113 (by decide +kernel))) hC.2.2.2.2.2.2.2.2.1.1 hW.1 (wl_D g σ) hS (h0 - 5) (h1 - 5) 1 1 hat0 hat1 rfl rfl rfl a1 a2 a3 a4 a5 (fun _ _ => rfl) (by omega) ?_ hd (fun H1 locs1 hP1 hD1 hS1 => ?_)
  · rw [rv_cats]
    have h9 : nativeFrameWords "java/lang/System" "arraycopy" 5 + 11 ≤ 32 := by decide +kernel
    omega
  · refine kk p e R s m args below meth c Z hC hR H1 locs1 ls ⟨?_, hW.2⟩ hS1 hl hk hw
    have e2 : va_cpy (σ.2.2 h0) (σ.2.2 h1) sp.toNatClampNeg dp.toNatClampNeg n.toNatClampNeg = rs2 σ.2.2 h1 (va_cpy (σ.2.2 h0) (σ.2.2 h1) sp.toNatClampNeg dp.toNatClampNeg n.toNatClampNeg) h1 := (if_pos rfl).symm
    rw [e2, ← ce_long (mi := σ.2.1) (rs := rs1)] at hP1
    unfold World
    rw [← wl_set (σ' := (σ.1, σ.2.1, rs2 σ.2.2 h1 (va_cpy (σ.2.2 h0) (σ.2.2 h1) sp.toNatClampNeg dp.toNatClampNeg n.toNatClampNeg))) hc1 (rsame (cel_ge hc1).2) (fun _ _ => rfl) (fun _ hx => if_neg hx)]
    exact hP1
end JF
end
section
/-! returns, calls, making of cells -/
theorem sz_eq {g : GC} {σ : Sto} {H : Heap} {locs : List Loc} {p : Program} {e : Env} {R : Room} {s T : State} {m : MethodId} {args : Array Value} {below : List Frame} {meth : Method} {c : Code} {k w : Nat} (hE : EnvG g s) (hW : World g σ H) (hz : s.heap.size + k = gz g + σ.1.length) (hS : va_S (AA g) s.heap H locs) (hT : T.heap = H) (X : Stand p (gL g) e R s m args below meth c T locs k w) : H.size = gz g + σ.1.length := by
  have hup : T.heap.size ≤ s.heap.size + k := X.same.2.2.1
  rw [hT] at hup
  have hE2 := hE.2.1
  have hlo : gz g + σ.1.length ≤ H.size := by
    cases hl : σ.1.length with
    | zero => have := hS.1; omega
    | succ n =>
      have hn : n < σ.1.length := by omega
      have h1 : (wl g σ)[n]? = some (gz g + n, ce g σ.2.1 σ.2.2 (n + 5) σ.1[n]) := by
        unfold wl
        rw [List.getElem?_mapIdx, List.getElem?_eq_getElem hn]
        rfl
      have := (hW n _ h1).lt
      have h2 : gz g + n < H.size := this
      omega
  omega
def rsN {α : Type} (f : Nat → Nat → α) (h : Nat) (z : α) : Nat → Nat → α := rs2 f h (fun _ => z)
theorem wl_push {g : GC} {σ : Sto} {mi : Nat → Nat → Int32} {ml : Nat → Nat → Int64} (q : Nat × Nat × List (Option Nat)) (hmi : ∀ x, x ≠ σ.1.length + 5 → mi x = σ.2.1 x) (hml : ∀ x, x ≠ σ.1.length + 5 → ml x = σ.2.2 x) :
    wl g (σ.1 ++ [q], mi, ml) = wl g σ ++ [(gz g + σ.1.length, ce g mi ml (σ.1.length + 5) q)] := by
  apply List.ext_getElem?
  intro i
  unfold wl
  rw [List.getElem?_mapIdx]
  by_cases h1 : i < σ.1.length
  · rw [List.getElem?_append_left h1, List.getElem?_append_left (by simp [h1]), List.getElem?_mapIdx]
    cases hi : σ.1[i]? with
    | none => rfl
    | some q0 =>
      simp only [Option.map_some]
      rw [ce_congr (hmi (i + 5) (by omega)) (hml (i + 5) (by omega))]
  · rw [List.getElem?_append_right (by omega), List.getElem?_append_right (by simp; omega)]
    simp only [List.length_mapIdx]
    by_cases h2 : i = σ.1.length
    · subst h2
      simp
    · rw [List.getElem?_eq_none (by simp; omega), List.getElem?_eq_none (by simp; omega)]
      rfl
section JC
variable {g : GC} {μ : MRec} {d K N pc : Nat} {L : List (Nat × Value)} {S : List Value} {σ : Sto} {k w : Nat} {Q : Option Value → Sto → Prop}
theorem J_ireturn {x : Int32} {ty : FieldType} (hr : μ.2.2.2 = some ty) (hn : narrow ty (.int x) = .int x) (hd : decode μ.2.1 pc = .ok (.ireturn, 1)) (hQ : Q (some (.int x)) σ) : J g μ d K N pc L [.int x] σ k w Q := by
  intro p e R s m args below meth c Z hC hR H locs ls hW hS hl hk hw
  exact hR (some (.int x)) σ H locs k w pc ls hQ ⟨⟨ty, hr, hn⟩, hd⟩ hW.1 hW.2 hS hk hw
theorem J_lreturn {x : Int64} (hr : μ.2.2.2 = some .long) (hd : decode μ.2.1 pc = .ok (.lreturn, 1)) (hQ : Q (some (.long x)) σ) : J g μ d K N pc L [.long x] σ k w Q := by
  intro p e R s m args below meth c Z hC hR H locs ls hW hS hl hk hw
  exact hR (some (.long x)) σ H locs k w pc ls hQ ⟨hr, hd⟩ hW.1 hW.2 hS hk hw
theorem J_return (hr : μ.2.2.2 = none) (hd : decode μ.2.1 pc = .ok (.return_, 1)) (hQ : Q none σ) : J g μ d K N pc L [] σ k w Q := by
  intro p e R s m args below meth c Z hC hR H locs ls hW hS hl hk hw
  exact hR none σ H locs k w pc ls hQ ⟨hr, hd⟩ hW.1 hW.2 hS hk hw
/-- a contract out of a walk of the body -/
theorem JC.of {as : List Value} (hy : plainName μ.1.cls = true) (hLn : (lg_sl as).length ≤ μ.2.2.1) (hJ : J g μ d K N 0 (lv_args 0 as) [] σ 0 0 Q) : JC g μ d K N as σ Q := by
  refine Met.ofW (cc := μ.2.1) (maxL := μ.2.2.1) (ret := μ.2.2.2) hy rfl ?_
  intro p e s m args below meth c s₁ B hml hv
  obtain ⟨hargs, ⟨hW, hz⟩, hE⟩ := hv
  have hts : ∀ w ∈ TB, w.before args s = true := fun w hw => atoms_spec (ws := wsOf μ) B.pre w (List.mem_cons_of_mem _ hw)
  have hcats : ∀ (l : List Value), (lg_sl (l.map (rv g))).length = (lg_sl l).length := by
    intro l
    induction l with
    | nil => rfl
    | cons v r ih =>
      simp only [lg_sl, List.map_cons, List.flatMap_cons, List.length_append, rv_cat] at ih ⊢
      rw [ih]
      congr 1
      split <;> rfl
  have hlva : ∀ (l : List Value) (i : Nat), lv_args i (l.map (rv g)) = lvm g (lv_args i l) := by
    intro l
    induction l with
    | nil => intro i; rfl
    | cons v r ih =>
      intro i
      simp only [List.map_cons, lv_args, rv_cat, ih]
      rfl
  have hl := lv_entry (as.map (rv g)) (n := μ.2.2.1) (by rw [hcats]; exact hLn)
  rw [hlva] at hl
  subst hargs
  rw [lg_entry_eq]
  have hC : CX g μ d K N p (headSpec (wsOf μ) (rmOf d K N)).room s m (as.map (rv g)).toArray meth c := ⟨B.exec, B.bytes, hml, findClass_of_methodNamed B.named, hts, B.returns, B.notSynchronized, (name_of_methodNamed B.named B.method).1, hE, Nat.le_refl _, Nat.le_refl _, Nat.le_refl _, Nat.le_refl _⟩
  refine hJ p e _ s m _ below meth c _ hC ?_ s.heap [] _ ⟨hW, hz⟩ va_S.rf hl (Nat.zero_le _) (Nat.zero_le _)
  intro v σ' H' locs' k' w' pc' ls' hQ hok hW' hz' hS' hk' hw'
  refine W.widen (k := K) (n := N) hk' hw' ?_
  have hend : ∀ t : State, t.heap = H' → QcG g Q (as.map (rv g)).toArray s (.returned (v.map (rv g))) t := fun t ht => ⟨⟨v, σ', rfl, hQ, by rw [ht]; exact hW'⟩, hS'.F ht⟩
  cases v with
  | none => exact W.vret B.exec B.bytes (B.returns.trans hok.1) (fun t ht _ => hend t ht) hS'.2.2 hok.2
  | some v =>
    cases v with
    | int x =>
      obtain ⟨⟨ty, h1, h2⟩, h3⟩ := hok
      exact W.zret B.exec B.bytes (B.returns.trans h1) h2 (fun t ht _ => hend t ht) hS'.2.2 h3
    | long x => exact W.lret B.exec B.bytes (B.returns.trans hok.1) (fun t ht _ => hend t ht) hS'.2.2 hok.2
    | _ => exact hok.elim
/-- behind a call -/
theorem callG {p : Program} {e : Env} {R : Room} {s : State} {m : MethodId} {args : Array Value} {below : List Frame} {meth : Method} {c : Code} {Z : State → Prop} {H : Heap} {locs : List Loc} {ls : Array Slot} {st0 rest : List Value} {K' N' : Nat} {Q1 : Option Value → Sto → Prop} {a : Array Value}
    (hr : va_Run p (gL g) e R s m args below meth c H locs k w K' N' (F0 m pc ls st0) rest (QcG g Q1 a) (AA g)) (hS : va_S (AA g) s.heap H locs)
    (kk : ∀ (v : Option Value) (σ1 : Sto) (H1 : Heap) (locs1 : List Loc), Q1 v σ1 → World g σ1 H1 → va_S (AA g) s.heap H1 locs1 → W p (gL g) e R s m args below meth c H1 locs1 (k + K') (w + N') Z (F0 m (pc + 3) ls ((v.map (rv g)).toList ++ rest))) : W p (gL g) e R s m args below meth c H locs k w Z (F0 m pc ls st0) := by
  intro T hT X
  obtain ⟨v, st₀, t, T', L0, h0, X', hL, e1, e2, ⟨⟨v', σ', hv, hq, hw⟩, hz, hk⟩, st⟩ := hr T hT X
  cases hv
  rw [h0] at hz hk
  obtain ⟨t2, a1, b1⟩ := kk v' σ' T'.heap (locs ++ L0) hq (by rw [e1]; exact hw)
    ⟨Nat.le_trans hS.1 (by rw [e1]; exact hz), fun q h1 h2 => by rw [e1, hk q (Nat.lt_of_lt_of_le h1 hS.1) h2]; exact hS.2.1 q h1 h2, fun q hq => by
      rcases List.mem_append.mp hq with h | h
      · exact hS.2.2 q h
      · exact hL q h⟩ T' rfl X'
  exact ⟨t2, st t2 a1, b1⟩
theorem rv_toList (g : GC) (v : Option Value) (S : List Value) : (v.map (rv g)).toList ++ S.map (rv g) = (v.toList ++ S).map (rv g) := by cases v <;> simp
/-- what the tables hold for a call -/
def LKV (own : String) (idx : Nat) (C : String) (ν : MRec) (n : Nat) : Prop := GoodIn TB (wsV own idx C ν.1 (wsOf ν)) ∧ (ν.1.cls = C ∧ ν.1.cls ≠ "java/lang/invoke/MethodHandle" ∧ ν.1.cls ≠ "java/lang/invoke/VarHandle" ∧ (parseMethodDescriptor ν.1.desc).map (fun d => d.parameters.length) = some n) ∧ ν.2.2.1 ≤ 21
def LKS (own : String) (idx : Nat) (ν : MRec) (n : Nat) : Prop := GoodIn TB (va_wsS own idx ν.1 (wsOf ν)) ∧ (ν.1.cls ≠ "java/lang/invoke/MethodHandle" ∧ ν.1.cls ≠ "java/lang/invoke/VarHandle" ∧ (parseMethodDescriptor ν.1.desc).map (fun d => d.parameters.length) = some n) ∧ ν.2.2.1 ≤ 21
def LKU (own : String) (idx : Nat) (C owner : String) (x : MethodName) (ν : MRec) (n : Nat) : Prop := GoodIn TB (va_wsU own idx C owner x ν.1 (wsOf ν)) ∧ ν.1 = ⟨owner, x.name, x.desc⟩ ∧ (owner ≠ "java/lang/invoke/MethodHandle" ∧ owner ≠ "java/lang/invoke/VarHandle" ∧ (parseMethodDescriptor x.desc).map (fun d => d.parameters.length) = some n) ∧ ν.2.2.1 ≤ 21
theorem pre_env {as : List Value} {s : State} {H : Heap} {locs : List Loc} (hE : EnvG g s) (hW : World g σ H) (hz : H.size = gz g + σ.1.length) (hS : va_S (AA g) s.heap H locs) : ∀ U : State, U.heap = H → s.WarmedH U.vm → PcG g as σ (as.map (rv g)).toArray U := by
  intro U hU hWm
  refine ⟨rfl, ⟨by rw [hU]; exact hW, by rw [hU]; exact hz⟩, ?_⟩
  exact hE.to (locs := locs) (by rw [hU]; exact hS) hWm
theorem J_callV {idx h ci n0 n d' K' N' : Nat} {C : String} {T : u_T} {nf : Nat} {rs : List (Option Nat)} {As St : List Value} {ν : MRec} {Q1 : Option Value → Sto → Prop} (hlk : LKV μ.1.cls idx C ν n) (hvw : vwCl[ci]? = some (C, T, nf)) (hci : ci < 9) (hd : decode μ.2.1 pc = .ok (.invokevirtual idx, 3)) (hc : cel σ h = some (ci, n0, rs)) (hM : JC g ν d' K' N' (.ref h :: As) σ Q1) (hdd : d' + 1 ≤ d) (hn : As.length = n)
    (hst : St = As.reverse ++ .ref h :: S) (hS8 : (S.map fun v => v.category).sum ≤ 8) (hK : k + K' ≤ K) (hN : w + N' ≤ N) (hlen : ∀ v σ1, Q1 v σ1 → σ1.1.length = σ.1.length + K') (kk : ∀ v σ1, Q1 v σ1 → J g μ d K N (pc + 3) L (v.toList ++ S) σ1 (k + K') (w + N') Q) : J g μ d K N pc L St σ k w Q := by
  intro p e R s m args below meth c Z hC hR H locs ls hW hS hl hk hw
  intro T0 hT0 X0
  have hE := hC.2.2.2.2.2.2.2.2.1
  have hsz := sz_eq hE hW.1 hW.2 hS hT0 X0
  obtain ⟨b1, b2, b3, b4⟩ := hC.2.2.2.2.2.2.2.2.2
  have hat := wl_at (g := g) hc
  rw [ce_obj hci] at hat
  have hgoal : W p (gL g) e R s m args below meth c H locs k w Z (F0 m pc ls (St.map (rv g))) := by
    refine callG (va_runV (As := As.map (rv g)) (rest := S.map (rv g)) (b := ad g h) ⟨hC.1, hC.2.1, hC.2.2.1, hC.2.2.2.1, hC.2.2.2.2.1⟩ hM (cwV n hC.2.2.2.2.1 hlk.1 rfl rfl rfl hlk.2.1 ⟨?_, ?_⟩) ⟨PcG.blind, va_recv hE.1 hW.1 hvw hat, pre_env hE hW.1 hsz hS⟩ rfl (by rw [List.length_map]; exact hn) hl.1 ?_ (lv_room (by rw [rv_cats]; exact hS8)) hd ⟨by omega, by omega⟩) hS (fun v σ1 H1 locs1 hQ hW1 hS1 => ?_)
    · show d' + 1 + 1 ≤ R.frames
      omega
    · have := hlk.2.2
      show 8 + (ν.2.2.1 + 11) + 40 * (d' + 1) ≤ R.locals
      omega
    · subst hst
      show ((As.reverse ++ Value.ref h :: S).map (rv g)) = (As.map (rv g)).reverse ++ .ref (ad g h) :: S.map (rv g)
      rw [List.map_append, List.map_reverse, List.map_cons]
      rfl
    · rw [rv_toList]
      have hl1 := hlen v σ1 hQ
      exact kk v σ1 hQ p e R s m args below meth c Z hC hR H1 locs1 ls ⟨hW1, by have := hW.2; omega⟩ hS1 hl hK hN
  exact hgoal T0 hT0 X0
end JC
end
section
section JD
variable {g : GC} {μ : MRec} {d K N pc : Nat} {L : List (Nat × Value)} {S : List Value} {σ : Sto} {k w : Nat} {Q : Option Value → Sto → Prop}
theorem J_callS {idx n d' K' N' : Nat} {As St : List Value} {ν : MRec} {Q1 : Option Value → Sto → Prop} (hlk : LKS μ.1.cls idx ν n) (hd : decode μ.2.1 pc = .ok (.invokestatic idx, 3)) (hM : JC g ν d' K' N' As σ Q1) (hdd : d' + 1 ≤ d) (hn : As.length = n)
    (hst : St = As.reverse ++ S) (hS8 : (S.map fun v => v.category).sum ≤ 8) (hK : k + K' ≤ K) (hN : w + N' ≤ N) (hlen : ∀ v σ1, Q1 v σ1 → σ1.1.length = σ.1.length + K') (kk : ∀ v σ1, Q1 v σ1 → J g μ d K N (pc + 3) L (v.toList ++ S) σ1 (k + K') (w + N') Q) : J g μ d K N pc L St σ k w Q := by
  intro p e R s m args below meth c Z hC hR H locs ls hW hS hl hk hw
  intro T0 hT0 X0
  have hE := hC.2.2.2.2.2.2.2.2.1
  have hsz := sz_eq hE hW.1 hW.2 hS hT0 X0
  obtain ⟨b1, b2, b3, b4⟩ := hC.2.2.2.2.2.2.2.2.2
  have hgoal : W p (gL g) e R s m args below meth c H locs k w Z (F0 m pc ls (St.map (rv g))) := by
    refine callG (va_runS (As := As.map (rv g)) (rest := S.map (rv g)) ⟨hC.1, hC.2.1, hC.2.2.1, hC.2.2.2.1, hC.2.2.2.2.1⟩ hM (va_cwS n hC.2.2.2.2.1 hlk.1 rfl rfl rfl hlk.2.1 ⟨?_, ?_⟩) ⟨PcG.blind, pre_env hE hW.1 hsz hS⟩ rfl (by rw [List.length_map]; exact hn) hl.1 ?_ (lv_room (by rw [rv_cats]; exact hS8)) hd ⟨by omega, by omega⟩) hS (fun v σ1 H1 locs1 hQ hW1 hS1 => ?_)
    · show d' + 1 + 1 ≤ R.frames
      omega
    · have := hlk.2.2
      show 8 + (ν.2.2.1 + 11) + 40 * (d' + 1) ≤ R.locals
      omega
    · subst hst
      show ((As.reverse ++ S).map (rv g)) = (As.map (rv g)).reverse ++ S.map (rv g)
      rw [List.map_append, List.map_reverse]
    · rw [rv_toList]
      have hl1 := hlen v σ1 hQ
      exact kk v σ1 hQ p e R s m args below meth c Z hC hR H1 locs1 ls ⟨hW1, by have := hW.2; omega⟩ hS1 hl hK hN
  exact hgoal T0 hT0 X0
theorem J_callU {idx h ci n0 n d' K' N' : Nat} {C owner : String} {x : MethodName} {T : u_T} {nf : Nat} {rs : List (Option Nat)} {As St : List Value} {ν : MRec} {Q1 : Option Value → Sto → Prop} (hlk : LKU μ.1.cls idx C owner x ν n) (hvw : vwCl[ci]? = some (C, T, nf)) (hci : ci < 9) (hd : decode μ.2.1 pc = .ok (.invokevirtual idx, 3)) (hc : cel σ h = some (ci, n0, rs)) (hM : JC g ν d' K' N' (.ref h :: As) σ Q1) (hdd : d' + 1 ≤ d) (hn : As.length = n)
    (hst : St = As.reverse ++ .ref h :: S) (hS8 : (S.map fun v => v.category).sum ≤ 8) (hK : k + K' ≤ K) (hN : w + N' ≤ N) (hlen : ∀ v σ1, Q1 v σ1 → σ1.1.length = σ.1.length + K') (kk : ∀ v σ1, Q1 v σ1 → J g μ d K N (pc + 3) L (v.toList ++ S) σ1 (k + K') (w + N') Q) : J g μ d K N pc L St σ k w Q := by
  intro p e R s m args below meth c Z hC hR H locs ls hW hS hl hk hw
  intro T0 hT0 X0
  have hE := hC.2.2.2.2.2.2.2.2.1
  have hsz := sz_eq hE hW.1 hW.2 hS hT0 X0
  obtain ⟨b1, b2, b3, b4⟩ := hC.2.2.2.2.2.2.2.2.2
  have hat := wl_at (g := g) hc
  rw [ce_obj hci] at hat
  have hgoal : W p (gL g) e R s m args below meth c H locs k w Z (F0 m pc ls (St.map (rv g))) := by
    refine callG (va_runU (As := As.map (rv g)) (rest := S.map (rv g)) (b := ad g h) ⟨hC.1, hC.2.1, hC.2.2.1, hC.2.2.2.1, hC.2.2.2.2.1⟩ hM (va_cwU n hC.2.2.2.2.1 hlk.1 rfl rfl rfl hlk.2.1 hlk.2.2.1 ⟨?_, ?_⟩) ⟨PcG.blind, va_recv hE.1 hW.1 hvw hat, pre_env hE hW.1 hsz hS⟩ rfl (by rw [List.length_map]; exact hn) hl.1 ?_ (lv_room (by rw [rv_cats]; exact hS8)) hd ⟨by omega, by omega⟩) hS (fun v σ1 H1 locs1 hQ hW1 hS1 => ?_)
    · show d' + 1 + 1 ≤ R.frames
      omega
    · have := hlk.2.2.2
      show 8 + (ν.2.2.1 + 11) + 40 * (d' + 1) ≤ R.locals
      omega
    · subst hst
      show ((As.reverse ++ Value.ref h :: S).map (rv g)) = (As.map (rv g)).reverse ++ .ref (ad g h) :: S.map (rv g)
      rw [List.map_append, List.map_reverse, List.map_cons]
      rfl
    · rw [rv_toList]
      have hl1 := hlen v σ1 hQ
      exact kk v σ1 hQ p e R s m args below meth c Z hC hR H1 locs1 ls ⟨hW1, by have := hW.2; omega⟩ hS1 hl hK hN
  exact hgoal T0 hT0 X0
/-- constructors: no arguments -/
theorem J_callI {idx h d' K' N' : Nat} {ν : MRec} {Q1 : Option Value → Sto → Prop} (hG : ∀ w ∈ [Cond.methodLink μ.1.cls idx ν.1, Cond.instanceMethod ν.1, Cond.initialized ν.1.cls, Cond.code ν.1 ν.2.1 ν.2.2.1 none], w ∈ TB) (hret : ν.2.2.2 = none) (hny : ν.1.name = "<init>") (hmh : ν.1.cls ≠ "java/lang/invoke/MethodHandle" ∧ ν.1.cls ≠ "java/lang/invoke/VarHandle" ∧ (parseMethodDescriptor ν.1.desc).map (fun d => d.parameters.length) = some 0) (hmx : ν.2.2.1 ≤ 21)
    (hd : decode μ.2.1 pc = .ok (.invokespecial idx, 3)) (hM : JC g ν d' K' N' [.ref h] σ Q1) (hdd : d' + 1 ≤ d)
    (hS8 : (S.map fun v => v.category).sum ≤ 8) (hK : k + K' ≤ K) (hN : w + N' ≤ N) (hlen : ∀ v σ1, Q1 v σ1 → σ1.1.length = σ.1.length + K') (kk : ∀ v σ1, Q1 v σ1 → J g μ d K N (pc + 3) L (v.toList ++ S) σ1 (k + K') (w + N') Q) : J g μ d K N pc L (.ref h :: S) σ k w Q := by
  intro p e R s m args below meth c Z hC hR H locs ls hW hS hl hk hw
  intro T0 hT0 X0
  have hE := hC.2.2.2.2.2.2.2.2.1
  have hsz := sz_eq hE hW.1 hW.2 hS hT0 X0
  obtain ⟨b1, b2, b3, b4⟩ := hC.2.2.2.2.2.2.2.2.2
  have hts := hC.2.2.2.2.1
  have hGw : GoodIn TB (wsOf ν) := good_ws (ws := []) (by rw [hret]; exact hG _ (by simp)) (fun _ h => absurd h List.not_mem_nil)
  have hgoal : W p (gL g) e R s m args below meth c H locs k w Z (F0 m pc ls ((.ref h :: S).map (rv g))) := by
    refine callG (va_runI (As := []) (rest := S.map (rv g)) (b := ad g h) ⟨hC.1, hC.2.1, hC.2.2.1, hC.2.2.2.1, hts⟩ hM (cwI 0 hts hGw (show wsOf ν = Cond.code ν.1 ν.2.1 ν.2.2.1 none :: TB by unfold wsOf; rw [hret]) rfl rfl (hts _ (hG _ (by simp))) (hts _ (hG _ (by simp))) (hts _ (hG _ (by simp))) hny hmh ⟨?_, ?_⟩) ⟨PcG.blind, pre_env (as := [.ref h]) hE hW.1 hsz hS⟩ rfl rfl hl.1 rfl (lv_room (by rw [rv_cats]; exact hS8)) hd ⟨by omega, by omega⟩) hS (fun v σ1 H1 locs1 hQ hW1 hS1 => ?_)
    · show d' + 1 + 1 ≤ R.frames
      omega
    · show 8 + (ν.2.2.1 + 11) + 40 * (d' + 1) ≤ R.locals
      omega
    · rw [rv_toList]
      have hl1 := hlen v σ1 hQ
      exact kk v σ1 hQ p e R s m args below meth c Z hC hR H1 locs1 ls ⟨hW1, by have := hW.2; omega⟩ hS1 hl hK hN
  exact hgoal T0 hT0 X0
theorem J_callIN {idx h d' K' N' : Nat} {host : String} {ν : MRec} {Q1 : Option Value → Sto → Prop} (hne : (μ.1.cls, idx, ν.1, host) ∈ nestL) (hG : ∀ w ∈ [Cond.instanceMethod ν.1, Cond.initialized ν.1.cls, Cond.code ν.1 ν.2.1 ν.2.2.1 none], w ∈ TB) (hret : ν.2.2.2 = none) (hny : ν.1.name = "<init>") (hmh : ν.1.cls ≠ "java/lang/invoke/MethodHandle" ∧ ν.1.cls ≠ "java/lang/invoke/VarHandle" ∧ (parseMethodDescriptor ν.1.desc).map (fun d => d.parameters.length) = some 0) (hmx : ν.2.2.1 ≤ 21)
    (hd : decode μ.2.1 pc = .ok (.invokespecial idx, 3)) (hM : JC g ν d' K' N' [.ref h] σ Q1) (hdd : d' + 1 ≤ d)
    (hS8 : (S.map fun v => v.category).sum ≤ 8) (hK : k + K' ≤ K) (hN : w + N' ≤ N) (hlen : ∀ v σ1, Q1 v σ1 → σ1.1.length = σ.1.length + K') (kk : ∀ v σ1, Q1 v σ1 → J g μ d K N (pc + 3) L (v.toList ++ S) σ1 (k + K') (w + N') Q) : J g μ d K N pc L (.ref h :: S) σ k w Q := by
  intro p e R s m args below meth c Z hC hR H locs ls hW hS hl hk hw
  intro T0 hT0 X0
  have hE := hC.2.2.2.2.2.2.2.2.1
  have hsz := sz_eq hE hW.1 hW.2 hS hT0 X0
  obtain ⟨b1, b2, b3, b4⟩ := hC.2.2.2.2.2.2.2.2.2
  have hts := hC.2.2.2.2.1
  have hGw : GoodIn TB (wsOf ν) := good_ws (ws := []) (by rw [hret]; exact hG _ (by simp)) (fun _ h => absurd h List.not_mem_nil)
  have hNw : va_Nw (.methodLinkNest μ.1.cls idx ν.1 host) s := hE.2.2.2.2.2.2.1 _ hne
  have hgoal : W p (gL g) e R s m args below meth c H locs k w Z (F0 m pc ls ((.ref h :: S).map (rv g))) := by
    refine callG (va_runIN (As := []) (rest := S.map (rv g)) (b := ad g h) (host := host) ⟨hC.1, hC.2.1, hC.2.2.1, hC.2.2.2.1, hts⟩ hM ⟨va_cnB 0 hts hGw (show wsOf ν = Cond.code ν.1 ν.2.1 ν.2.2.1 none :: TB by unfold wsOf; rw [hret]) rfl rfl hNw (hts _ (hG _ (by simp))) hmh ⟨?_, ?_⟩, hny, hts _ (hG _ (by simp))⟩ ⟨PcG.blind, pre_env (as := [.ref h]) hE hW.1 hsz hS⟩ rfl rfl hl.1 rfl (lv_room (by rw [rv_cats]; exact hS8)) hd ⟨by omega, by omega⟩) hS (fun v σ1 H1 locs1 hQ hW1 hS1 => ?_)
    · show d' + 1 + 1 ≤ R.frames
      omega
    · show 8 + (ν.2.2.1 + 11) + 40 * (d' + 1) ≤ R.locals
      omega
    · rw [rv_toList]
      have hl1 := hlen v σ1 hQ
      exact kk v σ1 hQ p e R s m args below meth c Z hC hR H1 locs1 ls ⟨hW1, by have := hW.2; omega⟩ hS1 hl hK hN
  exact hgoal T0 hT0 X0
theorem J_objInit {idx h : Nat} (hG : ∀ w ∈ [Cond.methodLink μ.1.cls idx Lib.objectInit, Cond.instanceMethod Lib.objectInit, Cond.code Lib.objectInit ⟨#[0xb1]⟩ 1 none], w ∈ TB) (hd : decode μ.2.1 pc = .ok (.invokespecial idx, 3)) (hS8 : (S.map fun v => v.category).sum ≤ 8) (kk : J g μ d K N (pc + 3) L S σ k w Q) : J g μ d K N pc L (.ref h :: S) σ k w Q := by
  intro p e R s m args below meth c Z hC hR H locs ls hW hS hl hk hw
  obtain ⟨b1, b2, b3, b4⟩ := hC.2.2.2.2.2.2.2.2.2
  have hts := hC.2.2.2.2.1
  have h8 : 2 * (F0 m pc ls ((.ref h :: S).map (rv g))).monitorRoom + ((S.map (rv g)).map fun v => v.category).sum ≤ 8 := lv_room (by rw [rv_cats]; exact hS8)
  exact W.objInit hC.1 hC.2.1 hC.2.2.2.1 (hts _ (hG _ (by simp))) (hts _ (hG _ (by simp))) (hts _ (hG _ (by simp))) rfl (hl.1.trans hC.2.2.1.symm) rfl hd (by omega) (by omega) (kk p e R s m args below meth c Z hC hR H locs ls hW hS hl hk hw)
/-- a new object, its fields at their default -/
theorem J_new {idx ci n : Nat} {C : String} {T : u_T} {t0 : Nat → FieldType} (hcl : CLS ci C T n t0) (hG : ∀ w ∈ [Cond.classLink μ.1.cls idx C, Cond.instantiable C n, Cond.initialized C], w ∈ TB) (hdef : ∀ j, j < n → defaultValue (t0 j) = if isRf ci j = true then .null else .int 0) (hd : decode μ.2.1 pc = .ok (.new idx, 3)) (hK : k + 1 ≤ K) (hN : w + n ≤ N)
    (kk : J g μ d K N (pc + 3) L (.ref (σ.1.length + 5) :: S) (σ.1 ++ [(ci, 0, List.replicate n none)], rsN σ.2.1 (σ.1.length + 5) 0, rsN σ.2.2 (σ.1.length + 5) 0) (k + 1) (w + n) Q) : J g μ d K N pc L S σ k w Q := by
  intro p e R s m args below meth c Z hC hR H locs ls hW hS hl hk hw
  intro T0 hT0 X0
  have hE := hC.2.2.2.2.2.2.2.2.1
  have hsz := sz_eq hE hW.1 hW.2 hS hT0 X0
  obtain ⟨b1, b2, b3, b4⟩ := hC.2.2.2.2.2.2.2.2.2
  have hts := hC.2.2.2.2.1
  obtain ⟨c1, c2, c3, c4, c5, c6⟩ := hcl
  have hKn := hE.1.1 ci _ c1
  have hgoal : W p (gL g) e R s m args below meth c H locs k w Z (F0 m pc ls (S.map (rv g))) := by
    refine W.newcK (C := C) (n := n) hC.1 hC.2.1 hC.2.2.2.1 (hts _ (hG _ (by simp))) (hts _ (hG _ (by simp))) (hts _ (hG _ (by simp))) rfl hd (by omega) (by omega) hKn.2.1 hsz fun H1 kC hkC e1 z1 o1 => ?_
    have hadr : ad g (σ.1.length + 5) = gz g + σ.1.length := by unfold ad; rw [if_neg (by omega)]; omega
    have hk2 : ∀ (j : Nat) (x : Nat × va_E), (wl g σ)[j]? = some x → H1[x.1]? = H[x.1]? := fun j x hx => o1 x.1 (by have := (hW.1 j x hx).lt; omega)
    have := kk p e R s m args below meth c Z hC hR H1 locs ls ⟨?_, ?_⟩ ?_ hl hK hN
    · rw [← hadr]
      exact this
    · unfold World
      rw [wl_push (σ := σ) (mi := rsN σ.2.1 (σ.1.length + 5) 0) (ml := rsN σ.2.2 (σ.1.length + 5) 0) _ (fun x hx => if_neg hx) (fun x hx => if_neg hx)]
      refine (hW.1.kept hk2).app (fun j x hx => ?_)
      have hz : j < 1 := (List.getElem?_eq_some_iff.mp hx).1
      rw [show j = 0 by omega] at hx
      cases hx
      rw [ce_obj c2]
      refine ⟨_, c1, (u_born t0 hts c4 hKn hkC e1 c5).to fun j hj => ?_⟩
      rw [hdef j hj]
      have hj2 : j < nF ci := by rw [← c3]; exact hj
      simp only [vp_V, List.getD, List.getElem?_map, List.getElem?_range hj2, Option.map_some, Option.getD_some]
      unfold fv
      split
      · simp [List.getD, List.getElem?_replicate, va_rf, hj]
      · simp [rsN, rs2]
    · rw [List.length_append]
      have := hW.2
      simp only [List.length_cons, List.length_nil]
      omega
    · refine ⟨Nat.le_trans hS.1 (by omega), fun x h1 h2 => (o1 x ?_).trans (hS.2.1 x h1 h2), hS.2.2⟩
      have := hS.1
      omega
  exact hgoal T0 hT0 X0
theorem J_newI {n : Int32} {n0 : Nat} (hn : ¬ n < 0) (hn0 : n.toNatClampNeg = n0) (hb : n0 ≤ 1000) (hd : decode μ.2.1 pc = .ok (.newarray .int, 2)) (hK : k + 1 ≤ K) (hN : w + n0 ≤ N)
    (kk : J g μ d K N (pc + 2) L (.ref (σ.1.length + 5) :: S) (σ.1 ++ [(100, n0, [])], rsN σ.2.1 (σ.1.length + 5) 0, rsN σ.2.2 (σ.1.length + 5) 0) (k + 1) (w + n0) Q) : J g μ d K N pc L (.int n :: S) σ k w Q := by
  intro p e R s m args below meth c Z hC hR H locs ls hW hS hl hk hw
  intro T0 hT0 X0
  have hE := hC.2.2.2.2.2.2.2.2.1
  have hsz := sz_eq hE hW.1 hW.2 hS hT0 X0
  obtain ⟨b1, b2, b3, b4⟩ := hC.2.2.2.2.2.2.2.2.2
  have hts := hC.2.2.2.2.1
  have hA0 : s.vm.findClass ("[" ++ FieldType.int.toString) = some (gA g 100) := (hE.1.2 0 _ rfl).2
  have hgoal : W p (gL g) e R s m args below meth c H locs k w Z (F0 m pc ls ((.int n :: S).map (rv g))) := by
    refine va_newaK (atype := .int) (N := n0) hC.1 hC.2.1 (hts (.arrayClass .int) (tb 155 (by decide +kernel))) rfl hd rfl hn hn0 (by show n0 * 4 ≤ 536870912; omega) (by omega) (by omega) hsz fun H1 cA e1 z1 o1 hAr hNm => ?_
    have ecA : cA = gA g 100 := Option.some.inj (hNm.symm.trans hA0)
    subst ecA
    have hadr : ad g (σ.1.length + 5) = gz g + σ.1.length := by unfold ad; rw [if_neg (by omega)]; omega
    have hk2 : ∀ (j : Nat) (x : Nat × va_E), (wl g σ)[j]? = some x → H1[x.1]? = H[x.1]? := fun j x hx => o1 x.1 (by have := (hW.1 j x hx).lt; omega)
    have := kk p e R s m args below meth c Z hC hR H1 locs ls ⟨?_, ?_⟩ ?_ hl hK hN
    · rw [← hadr]
      exact this
    · unfold World
      rw [wl_push (σ := σ) (mi := rsN σ.2.1 (σ.1.length + 5) 0) (ml := rsN σ.2.2 (σ.1.length + 5) 0) _ (fun x hx => if_neg hx) (fun x hx => if_neg hx)]
      refine (hW.1.kept hk2).app (fun j x hx => ?_)
      have hz : j < 1 := (List.getElem?_eq_some_iff.mp hx).1
      rw [show j = 0 by omega] at hx
      cases hx
      rw [ce_int]
      show H1[gz g + σ.1.length]? = some (vp_cell _ _)
      rw [show rsN σ.2.1 (σ.1.length + 5) 0 (σ.1.length + 5) = fun _ => (0 : Int32) from if_pos rfl]
      exact e1
    · rw [List.length_append]
      have := hW.2
      simp only [List.length_cons, List.length_nil]
      omega
    · refine ⟨Nat.le_trans hS.1 (by omega), fun x h1 h2 => (o1 x ?_).trans (hS.2.1 x h1 h2), hS.2.2⟩
      have := hS.1
      omega
  exact hgoal T0 hT0 X0
theorem J_newL {n : Int32} {n0 : Nat} (hn : ¬ n < 0) (hn0 : n.toNatClampNeg = n0) (hb : n0 ≤ 1000) (hd : decode μ.2.1 pc = .ok (.newarray .long, 2)) (hK : k + 1 ≤ K) (hN : w + n0 ≤ N)
    (kk : J g μ d K N (pc + 2) L (.ref (σ.1.length + 5) :: S) (σ.1 ++ [(101, n0, [])], rsN σ.2.1 (σ.1.length + 5) 0, rsN σ.2.2 (σ.1.length + 5) 0) (k + 1) (w + n0) Q) : J g μ d K N pc L (.int n :: S) σ k w Q := by
  intro p e R s m args below meth c Z hC hR H locs ls hW hS hl hk hw
  intro T0 hT0 X0
  have hE := hC.2.2.2.2.2.2.2.2.1
  have hsz := sz_eq hE hW.1 hW.2 hS hT0 X0
  obtain ⟨b1, b2, b3, b4⟩ := hC.2.2.2.2.2.2.2.2.2
  have hts := hC.2.2.2.2.1
  have hA0 : s.vm.findClass ("[" ++ FieldType.long.toString) = some (gA g 101) := (hE.1.2 1 _ rfl).2
  have hgoal : W p (gL g) e R s m args below meth c H locs k w Z (F0 m pc ls ((.int n :: S).map (rv g))) := by
    refine va_newaK (atype := .long) (N := n0) hC.1 hC.2.1 (hts (.arrayClass .long) (tb 296 (by decide +kernel))) rfl hd rfl hn hn0 (by show n0 * 8 ≤ 536870912; omega) (by omega) (by omega) hsz fun H1 cA e1 z1 o1 hAr hNm => ?_
    have ecA : cA = gA g 101 := Option.some.inj (hNm.symm.trans hA0)
    subst ecA
    have hadr : ad g (σ.1.length + 5) = gz g + σ.1.length := by unfold ad; rw [if_neg (by omega)]; omega
    have hk2 : ∀ (j : Nat) (x : Nat × va_E), (wl g σ)[j]? = some x → H1[x.1]? = H[x.1]? := fun j x hx => o1 x.1 (by have := (hW.1 j x hx).lt; omega)
    have := kk p e R s m args below meth c Z hC hR H1 locs ls ⟨?_, ?_⟩ ?_ hl hK hN
    · rw [← hadr]
      exact this
    · unfold World
      rw [wl_push (σ := σ) (mi := rsN σ.2.1 (σ.1.length + 5) 0) (ml := rsN σ.2.2 (σ.1.length + 5) 0) _ (fun x hx => if_neg hx) (fun x hx => if_neg hx)]
      refine (hW.1.kept hk2).app (fun j x hx => ?_)
      have hz : j < 1 := (List.getElem?_eq_some_iff.mp hx).1
      rw [show j = 0 by omega] at hx
      cases hx
      rw [ce_long]
      show H1[gz g + σ.1.length]? = some (vp_cell _ _)
      rw [show rsN σ.2.2 (σ.1.length + 5) 0 (σ.1.length + 5) = fun _ => (0 : Int64) from if_pos rfl]
      exact e1
    · rw [List.length_append]
      have := hW.2
      simp only [List.length_cons, List.length_nil]
      omega
    · refine ⟨Nat.le_trans hS.1 (by omega), fun x h1 h2 => (o1 x ?_).trans (hS.2.1 x h1 h2), hS.2.2⟩
      have := hS.1
      omega
  exact hgoal T0 hT0 X0
theorem J_anew {idx : Nat} {n : Int32} {n0 : Nat} (hw0 : Cond.classLink μ.1.cls idx "WithOneHand$Shelf" ∈ TB) (hn : ¬ n < 0) (hn0 : n.toNatClampNeg = n0) (hb : n0 ≤ 1000) (hd : decode μ.2.1 pc = .ok (.anewarray idx, 3)) (hK : k + 1 ≤ K) (hN : w + n0 ≤ N)
    (kk : J g μ d K N (pc + 3) L (.ref (σ.1.length + 5) :: S) (σ.1 ++ [(103, n0, List.replicate n0 none)], rsN σ.2.1 (σ.1.length + 5) 0, rsN σ.2.2 (σ.1.length + 5) 0) (k + 1) (w + n0) Q) : J g μ d K N pc L (.int n :: S) σ k w Q := by
  intro p e R s m args below meth c Z hC hR H locs ls hW hS hl hk hw
  intro T0 hT0 X0
  have hE := hC.2.2.2.2.2.2.2.2.1
  have hsz := sz_eq hE hW.1 hW.2 hS hT0 X0
  obtain ⟨b1, b2, b3, b4⟩ := hC.2.2.2.2.2.2.2.2.2
  have hts := hC.2.2.2.2.1
  obtain ⟨kA0, comp0, -, -, -, hA0⟩ := (hE.1.2 3 _ rfl).2
  subst hn0
  have hgoal : W p (gL g) e R s m args below meth c H locs k w Z (F0 m pc ls ((.int n :: S).map (rv g))) := by
    refine W.anew hC.1 hC.2.1 hC.2.2.2.1 (hts _ hw0) (va_AO.use hE.2.2.2.2.2.2.2.1) rfl hd rfl hn (by omega) (by omega) (by omega) fun cA kA comp f1 f2 f3 f4 => ?_
    have ecA : cA = gA g 103 := Option.some.inj (f1.symm.trans hA0)
    subst ecA
    generalize hH1 : H.push ({ cls := gA g 103, slots := Array.replicate n.toNatClampNeg .null, vm := .none } : Cell) = H1
    have z1 : H1.size = H.size + 1 := by rw [← hH1, Array.size_push]
    have e1 : H1[H.size]? = some (arrV (gA g 103) n.toNatClampNeg (fun _ => .null)) := by rw [← hH1, Array.getElem?_push_size, ← arrV_new]
    have o1 : ∀ q : Nat, q < H.size → H1[q]? = H[q]? := fun q hq => by rw [← hH1, Array.getElem?_push, if_neg (Nat.ne_of_lt hq)]
    have hadr : ad g (σ.1.length + 5) = H.size := by unfold ad; rw [if_neg (by omega)]; omega
    have hk2 : ∀ (j : Nat) (x : Nat × va_E), (wl g σ)[j]? = some x → H1[x.1]? = H[x.1]? := fun j x hx => o1 x.1 (hW.1 j x hx).lt
    have := kk p e R s m args below meth c Z hC hR H1 locs ls ⟨?_, ?_⟩ ?_ hl hK hN
    · rw [← hadr]
      exact this
    · unfold World
      rw [wl_push (σ := σ) (mi := rsN σ.2.1 (σ.1.length + 5) 0) (ml := rsN σ.2.2 (σ.1.length + 5) 0) _ (fun x hx => if_neg hx) (fun x hx => if_neg hx)]
      refine (hW.1.kept hk2).app (fun j x hx => ?_)
      have hz : j < 1 := (List.getElem?_eq_some_iff.mp hx).1
      rw [show j = 0 by omega] at hx
      cases hx
      rw [ce_103, show (fun i => ((List.replicate n.toNatClampNeg (none : Option Nat)).getD i none).map (ad g)) = fun _ => none by
        funext i
        have : ((List.replicate n.toNatClampNeg (none : Option Nat)).getD i none) = none := by
          simp only [List.getD, List.getElem?_replicate]
          split <;> rfl
        rw [this]
        rfl]
      show H1[gz g + σ.1.length]? = some (vp_cell _ _)
      rw [vp_cell_q, ← hsz]
      exact e1
    · rw [List.length_append]
      have := hW.2
      simp only [List.length_cons, List.length_nil]
      omega
    · refine ⟨Nat.le_trans hS.1 (by omega), fun x h1 h2 => (o1 x ?_).trans (hS.2.1 x h1 h2), hS.2.2⟩
      exact Nat.lt_of_lt_of_le h1 hS.1
  exact hgoal T0 hT0 X0
/-! switches: cases as a list -/
def swt (cs : List (Int32 × Nat)) (td : Nat) (x : Int32) : Nat := match cs with
  | [] => td
  | (c, t) :: r => if x = c then t else swt r td x
theorem swt_miss {cs : List (Int32 × Nat)} {td : Nat} {x : Int32} (h : ∀ q ∈ cs, x ≠ q.1) : swt cs td x = td := by
  induction cs with
  | nil => rfl
  | cons q r ih =>
    obtain ⟨c, t⟩ := q
    show (if x = c then t else swt r td x) = td
    rw [if_neg (h (c, t) List.mem_cons_self)]
    exact ih (fun q hq => h q (List.mem_cons_of_mem _ hq))
theorem J_tsw {dflt lo hi : Int} {offs : Array Int} {len td n : Nat} {cs : List (Int32 × Nat)} {x : Int32} (hd : decode μ.2.1 pc = .ok (.tableswitch dflt lo hi offs, len)) (htd : (pc : Int) + dflt = (td : Int)) (hn : hi = lo + n)
    (hin : ∀ i, i < n + 1 → (match offs[i]? with | some off => decide ((pc : Int) + off = ((swt cs td (Int32.ofInt (lo + i)) : Nat) : Int)) | none => false) = true) (hout : ∀ q ∈ cs, lo ≤ q.1.toInt ∧ q.1.toInt ≤ hi)
    (kk : J g μ d K N (swt cs td x) L S σ k w Q) : J g μ d K N pc L (.int x :: S) σ k w Q := by
  intro p e R s m args below meth c Z hC hR H locs ls hW hS hl hk hw
  by_cases h1 : x.toInt < lo ∨ hi < x.toInt
  · have e9 : swt cs td x = td := swt_miss (fun q hq e => by have := hout q hq; rw [← e] at this; omega)
    rw [e9] at kk
    exact lv_tableOut hC.1 hC.2.1 hd h1 htd (kk p e R s m args below meth c Z hC hR H locs ls hW hS hl hk hw)
  · have h2 : ¬ x.toInt < lo := fun q => h1 (Or.inl q)
    have h3 : ¬ hi < x.toInt := fun q => h1 (Or.inr q)
    have h4 := hin (x.toInt - lo).toNat (by omega)
    have e5 : lo + ((x.toInt - lo).toNat : Int) = x.toInt := by omega
    rw [e5, Int32.ofInt_toInt] at h4
    split at h4
    · rename_i off hoff
      exact lv_tableIn hC.1 hC.2.1 hd h2 h3 hoff (of_decide_eq_true h4) (kk p e R s m args below meth c Z hC hR H locs ls hW hS hl hk hw)
    · cases h4
theorem swt_lookup {pc td : Nat} {dflt : Int} (hdf : (pc : Int) + dflt = (td : Int)) (x : Int32) : ∀ (ps : List (Int × Int)) (cs : List (Int32 × Nat)), ps.length = cs.length → (∀ q ∈ ps.zip cs, q.1.1 = q.2.1.toInt ∧ (pc : Int) + q.1.2 = (q.2.2 : Int)) → (pc : Int) + Op.lookupswitch.offset ps dflt x.toInt = ((swt cs td x : Nat) : Int)
  | [], [], _, _ => by rw [Op.lookupswitch.offset_nil]; exact hdf
  | [], _ :: _, h, _ => by cases h
  | _ :: _, [], h, _ => by cases h
  | (a, o) :: ps, (c, t) :: cs, h, hz => by
    have h0 := hz ((a, o), (c, t)) (by simp)
    have ih := swt_lookup hdf x ps cs (by simpa using h) (fun q hq => hz q (by simp [hq]))
    rw [Op.lookupswitch.offset_cons]
    show _ = (((if x = c then t else swt cs td x) : Nat) : Int)
    obtain ⟨h1, h2⟩ := h0
    have h1' : a = c.toInt := h1
    have h2' : (pc : Int) + o = (t : Int) := h2
    by_cases e : x = c
    · subst e
      rw [if_pos h1', if_pos rfl]
      exact h2'
    · have e2 : ¬ a = x.toInt := fun q => e (Int32.toInt_inj.mp (by rw [← q, h1']))
      rw [if_neg e2, if_neg e]
      exact ih
theorem J_lsw {dflt : Int} {ps : Array (Int × Int)} {len td : Nat} {cs : List (Int32 × Nat)} {x : Int32} (hd : decode μ.2.1 pc = .ok (.lookupswitch dflt ps, len)) (hp : (ps.toList.zip (ps.toList.drop 1)).all (fun (a, next) => a.1 < next.1) = true) (htd : (pc : Int) + dflt = (td : Int))
    (hlen : ps.toList.length = cs.length) (hz : ∀ q ∈ ps.toList.zip cs, q.1.1 = q.2.1.toInt ∧ (pc : Int) + q.1.2 = (q.2.2 : Int)) (kk : J g μ d K N (swt cs td x) L S σ k w Q) : J g μ d K N pc L (.int x :: S) σ k w Q := by
  intro p e R s m args below meth c Z hC hR H locs ls hW hS hl hk hw
  exact lv_lookup hC.1 hC.2.1 hd hp rfl (swt_lookup htd x _ _ hlen hz) (kk p e R s m args below meth c Z hC hR H locs ls hW hS hl hk hw)
theorem J_sw {c : Int32} {t td : Nat} {r : List (Int32 × Nat)} {x : Int32} (h1 : x = c → J g μ d K N t L S σ k w Q) (h2 : ¬ x = c → J g μ d K N (swt r td x) L S σ k w Q) : J g μ d K N (swt ((c, t) :: r) td x) L S σ k w Q := by
  show J g μ d K N (if x = c then t else swt r td x) L S σ k w Q
  by_cases e : x = c
  · rw [if_pos e]; exact h1 e
  · rw [if_neg e]; exact h2 e
end JD
end
