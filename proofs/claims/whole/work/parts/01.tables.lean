-- ===== PART A: goes FIRST, ahead of the names: the tables' words, and 'selects' of the private methods out of them =====
/-- a private method of a class that the tables say can be made, by its rows of tables_1 -/
def lw_okq (q : MethodName × Nat) : Prop := (q.1.cls ≠ "java/lang/invoke/MethodHandle" ∧ q.1.cls ≠ "java/lang/invoke/VarHandle") ∧ Cond.instantiable q.1.cls q.2 ∈ tables_1 ∧ Cond.privateMethod q.1 ∈ tables_1 ∧ Cond.instanceMethod q.1 ∈ tables_1
theorem lw_p0 : lw_okq (⟨"HandedVoices$Rules", "clear", "()V"⟩, 6) := ⟨⟨by decide +kernel, by decide +kernel⟩, List.mem_of_getElem? (i := 93) (by decide +kernel), List.mem_of_getElem? (i := 99) (by decide +kernel), List.mem_of_getElem? (i := 100) (by decide +kernel)⟩
theorem lw_p1 : lw_okq (⟨"HandedVoices$Hands", "sits", "(I)Z"⟩, 9) := ⟨⟨by decide +kernel, by decide +kernel⟩, List.mem_of_getElem? (i := 29) (by decide +kernel), List.mem_of_getElem? (i := 369) (by decide +kernel), List.mem_of_getElem? (i := 370) (by decide +kernel)⟩
theorem lw_p2 : lw_okq (⟨"HandedVoices$Hands", "opinion", "(II)I"⟩, 9) := ⟨⟨by decide +kernel, by decide +kernel⟩, List.mem_of_getElem? (i := 29) (by decide +kernel), List.mem_of_getElem? (i := 376) (by decide +kernel), List.mem_of_getElem? (i := 377) (by decide +kernel)⟩
theorem lw_p3 : lw_okq (⟨"HandedVoices$Hands", "form", "(IIZI)V"⟩, 9) := ⟨⟨by decide +kernel, by decide +kernel⟩, List.mem_of_getElem? (i := 29) (by decide +kernel), List.mem_of_getElem? (i := 383) (by decide +kernel), List.mem_of_getElem? (i := 384) (by decide +kernel)⟩
theorem lw_p4 : lw_okq (⟨"HandedVoices$Law", "learn", "(I)V"⟩, 5) := ⟨⟨by decide +kernel, by decide +kernel⟩, List.mem_of_getElem? (i := 152) (by decide +kernel), List.mem_of_getElem? (i := 388) (by decide +kernel), List.mem_of_getElem? (i := 389) (by decide +kernel)⟩
theorem lw_p5 : lw_okq (⟨"HandedVoices$Law", "maskOf", "(II)I"⟩, 5) := ⟨⟨by decide +kernel, by decide +kernel⟩, List.mem_of_getElem? (i := 152) (by decide +kernel), List.mem_of_getElem? (i := 393) (by decide +kernel), List.mem_of_getElem? (i := 394) (by decide +kernel)⟩
theorem lw_p6 : lw_okq (⟨"HandedVoices$Rules", "forbid", "([I)Z"⟩, 6) := ⟨⟨by decide +kernel, by decide +kernel⟩, List.mem_of_getElem? (i := 93) (by decide +kernel), List.mem_of_getElem? (i := 397) (by decide +kernel), List.mem_of_getElem? (i := 398) (by decide +kernel)⟩
theorem lw_p7 : lw_okq (⟨"HandedVoices$Hands", "renew", "(IIIII)I"⟩, 9) := ⟨⟨by decide +kernel, by decide +kernel⟩, List.mem_of_getElem? (i := 29) (by decide +kernel), List.mem_of_getElem? (i := 408) (by decide +kernel), List.mem_of_getElem? (i := 409) (by decide +kernel)⟩
theorem lw_p8 : lw_okq (⟨"HandedVoices$HallText", "append", "(I)V"⟩, 6) := ⟨⟨by decide +kernel, by decide +kernel⟩, List.mem_of_getElem? (i := 87) (by decide +kernel), List.mem_of_getElem? (i := 436) (by decide +kernel), List.mem_of_getElem? (i := 437) (by decide +kernel)⟩
theorem lw_p9 : lw_okq (⟨"HandedVoices$HallText", "fault", "()I"⟩, 6) := ⟨⟨by decide +kernel, by decide +kernel⟩, List.mem_of_getElem? (i := 87) (by decide +kernel), List.mem_of_getElem? (i := 444) (by decide +kernel), List.mem_of_getElem? (i := 445) (by decide +kernel)⟩
theorem lw_p10 : lw_okq (⟨"HandedVoices$HallText", "clause", "()Z"⟩, 6) := ⟨⟨by decide +kernel, by decide +kernel⟩, List.mem_of_getElem? (i := 87) (by decide +kernel), List.mem_of_getElem? (i := 449) (by decide +kernel), List.mem_of_getElem? (i := 450) (by decide +kernel)⟩
theorem lw_p11 : lw_okq (⟨"HandedVoices$HallText", "seen", "()I"⟩, 6) := ⟨⟨by decide +kernel, by decide +kernel⟩, List.mem_of_getElem? (i := 87) (by decide +kernel), List.mem_of_getElem? (i := 453) (by decide +kernel), List.mem_of_getElem? (i := 454) (by decide +kernel)⟩
theorem lw_p12 : lw_okq (⟨"HandedVoices$HallText", "word", "(Ljava/lang/String;)Z"⟩, 6) := ⟨⟨by decide +kernel, by decide +kernel⟩, List.mem_of_getElem? (i := 87) (by decide +kernel), List.mem_of_getElem? (i := 458) (by decide +kernel), List.mem_of_getElem? (i := 459) (by decide +kernel)⟩
theorem lw_p13 : lw_okq (⟨"HandedVoices$HallText", "either", "(I)Z"⟩, 6) := ⟨⟨by decide +kernel, by decide +kernel⟩, List.mem_of_getElem? (i := 87) (by decide +kernel), List.mem_of_getElem? (i := 510) (by decide +kernel), List.mem_of_getElem? (i := 511) (by decide +kernel)⟩
theorem lw_p14 : lw_okq (⟨"HandedVoices$HallText", "single", "(I)Z"⟩, 6) := ⟨⟨by decide +kernel, by decide +kernel⟩, List.mem_of_getElem? (i := 87) (by decide +kernel), List.mem_of_getElem? (i := 514) (by decide +kernel), List.mem_of_getElem? (i := 515) (by decide +kernel)⟩
theorem lw_p15 : lw_okq (⟨"HandedVoices$HallText", "test", "()Z"⟩, 6) := ⟨⟨by decide +kernel, by decide +kernel⟩, List.mem_of_getElem? (i := 87) (by decide +kernel), List.mem_of_getElem? (i := 518) (by decide +kernel), List.mem_of_getElem? (i := 519) (by decide +kernel)⟩
def lw_privs_1 : List (MethodName × Nat) := [(⟨"HandedVoices$Rules", "clear", "()V"⟩, 6), (⟨"HandedVoices$Hands", "sits", "(I)Z"⟩, 9), (⟨"HandedVoices$Hands", "opinion", "(II)I"⟩, 9), (⟨"HandedVoices$Hands", "form", "(IIZI)V"⟩, 9), (⟨"HandedVoices$Law", "learn", "(I)V"⟩, 5), (⟨"HandedVoices$Law", "maskOf", "(II)I"⟩, 5), (⟨"HandedVoices$Rules", "forbid", "([I)Z"⟩, 6), (⟨"HandedVoices$Hands", "renew", "(IIIII)I"⟩, 9), (⟨"HandedVoices$HallText", "append", "(I)V"⟩, 6), (⟨"HandedVoices$HallText", "fault", "()I"⟩, 6), (⟨"HandedVoices$HallText", "clause", "()Z"⟩, 6), (⟨"HandedVoices$HallText", "seen", "()I"⟩, 6), (⟨"HandedVoices$HallText", "word", "(Ljava/lang/String;)Z"⟩, 6), (⟨"HandedVoices$HallText", "either", "(I)Z"⟩, 6), (⟨"HandedVoices$HallText", "single", "(I)Z"⟩, 6), (⟨"HandedVoices$HallText", "test", "()Z"⟩, 6)]
theorem lw_r1 : ∀ q ∈ lw_privs_1, lw_okq q := List.forall_mem_cons.mpr ⟨lw_p0, List.forall_mem_cons.mpr ⟨lw_p1, List.forall_mem_cons.mpr ⟨lw_p2, List.forall_mem_cons.mpr ⟨lw_p3, List.forall_mem_cons.mpr ⟨lw_p4, List.forall_mem_cons.mpr ⟨lw_p5, List.forall_mem_cons.mpr ⟨lw_p6, List.forall_mem_cons.mpr ⟨lw_p7, List.forall_mem_cons.mpr ⟨lw_p8, List.forall_mem_cons.mpr ⟨lw_p9, List.forall_mem_cons.mpr ⟨lw_p10, List.forall_mem_cons.mpr ⟨lw_p11, List.forall_mem_cons.mpr ⟨lw_p12, List.forall_mem_cons.mpr ⟨lw_p13, List.forall_mem_cons.mpr ⟨lw_p14, List.forall_mem_cons.mpr ⟨lw_p15, fun _ h => absurd h List.not_mem_nil⟩⟩⟩⟩⟩⟩⟩⟩⟩⟩⟩⟩⟩⟩⟩⟩
theorem lw_p16 : lw_okq (⟨"HandedVoices$HallText", "signOf", "(Ljava/lang/String;)I"⟩, 6) := ⟨⟨by decide +kernel, by decide +kernel⟩, List.mem_of_getElem? (i := 87) (by decide +kernel), List.mem_of_getElem? (i := 523) (by decide +kernel), List.mem_of_getElem? (i := 524) (by decide +kernel)⟩
theorem lw_p17 : lw_okq (⟨"HandedVoices$HallText", "figuresOf", "()Z"⟩, 6) := ⟨⟨by decide +kernel, by decide +kernel⟩, List.mem_of_getElem? (i := 87) (by decide +kernel), List.mem_of_getElem? (i := 528) (by decide +kernel), List.mem_of_getElem? (i := 529) (by decide +kernel)⟩
theorem lw_p18 : lw_okq (⟨"HandedVoices$Rules", "add", "(I)V"⟩, 6) := ⟨⟨by decide +kernel, by decide +kernel⟩, List.mem_of_getElem? (i := 93) (by decide +kernel), List.mem_of_getElem? (i := 535) (by decide +kernel), List.mem_of_getElem? (i := 536) (by decide +kernel)⟩
theorem lw_p19 : lw_okq (⟨"HandedVoices$HallText", "need", "()Z"⟩, 6) := ⟨⟨by decide +kernel, by decide +kernel⟩, List.mem_of_getElem? (i := 87) (by decide +kernel), List.mem_of_getElem? (i := 541) (by decide +kernel), List.mem_of_getElem? (i := 542) (by decide +kernel)⟩
theorem lw_p20 : lw_okq (⟨"HandedVoices$HallText", "ring", "()Z"⟩, 6) := ⟨⟨by decide +kernel, by decide +kernel⟩, List.mem_of_getElem? (i := 87) (by decide +kernel), List.mem_of_getElem? (i := 547) (by decide +kernel), List.mem_of_getElem? (i := 548) (by decide +kernel)⟩
theorem lw_p21 : lw_okq (⟨"HandedVoices$Law", "adopt", "(LHandedVoices$Rules;)LHandedVoices$Rules;"⟩, 5) := ⟨⟨by decide +kernel, by decide +kernel⟩, List.mem_of_getElem? (i := 152) (by decide +kernel), List.mem_of_getElem? (i := 551) (by decide +kernel), List.mem_of_getElem? (i := 552) (by decide +kernel)⟩
theorem lw_p22 : lw_okq (⟨"HandedVoices$Law", "bars", "(III)Z"⟩, 5) := ⟨⟨by decide +kernel, by decide +kernel⟩, List.mem_of_getElem? (i := 152) (by decide +kernel), List.mem_of_getElem? (i := 561) (by decide +kernel), List.mem_of_getElem? (i := 562) (by decide +kernel)⟩
theorem lw_p23 : lw_okq (⟨"HandedVoices$Spread", "lay", "(IIIII)V"⟩, 11) := ⟨⟨by decide +kernel, by decide +kernel⟩, List.mem_of_getElem? (i := 180) (by decide +kernel), List.mem_of_getElem? (i := 569) (by decide +kernel), List.mem_of_getElem? (i := 570) (by decide +kernel)⟩
theorem lw_p24 : lw_okq (⟨"HandedVoices$Spread", "layFirm", "(IIIII)V"⟩, 11) := ⟨⟨by decide +kernel, by decide +kernel⟩, List.mem_of_getElem? (i := 180) (by decide +kernel), List.mem_of_getElem? (i := 573) (by decide +kernel), List.mem_of_getElem? (i := 574) (by decide +kernel)⟩
theorem lw_p25 : lw_okq (⟨"HandedVoices$Spread", "send", "(III)V"⟩, 11) := ⟨⟨by decide +kernel, by decide +kernel⟩, List.mem_of_getElem? (i := 180) (by decide +kernel), List.mem_of_getElem? (i := 578) (by decide +kernel), List.mem_of_getElem? (i := 579) (by decide +kernel)⟩
theorem lw_p26 : lw_okq (⟨"HandedVoices$Spread", "stay", "(II)V"⟩, 11) := ⟨⟨by decide +kernel, by decide +kernel⟩, List.mem_of_getElem? (i := 180) (by decide +kernel), List.mem_of_getElem? (i := 582) (by decide +kernel), List.mem_of_getElem? (i := 583) (by decide +kernel)⟩
theorem lw_p27 : lw_okq (⟨"HandedVoices$Hands", "isSelf", "(II)Z"⟩, 9) := ⟨⟨by decide +kernel, by decide +kernel⟩, List.mem_of_getElem? (i := 29) (by decide +kernel), List.mem_of_getElem? (i := 586) (by decide +kernel), List.mem_of_getElem? (i := 587) (by decide +kernel)⟩
theorem lw_p28 : lw_okq (⟨"HandedVoices$Spread", "layHand", "(II)V"⟩, 11) := ⟨⟨by decide +kernel, by decide +kernel⟩, List.mem_of_getElem? (i := 180) (by decide +kernel), List.mem_of_getElem? (i := 590) (by decide +kernel), List.mem_of_getElem? (i := 591) (by decide +kernel)⟩
theorem lw_p29 : lw_okq (⟨"HandedVoices$Hands", "surestOf", "(II)I"⟩, 9) := ⟨⟨by decide +kernel, by decide +kernel⟩, List.mem_of_getElem? (i := 29) (by decide +kernel), List.mem_of_getElem? (i := 594) (by decide +kernel), List.mem_of_getElem? (i := 595) (by decide +kernel)⟩
theorem lw_p30 : lw_okq (⟨"HandedVoices$Spread", "layOrders", "()V"⟩, 11) := ⟨⟨by decide +kernel, by decide +kernel⟩, List.mem_of_getElem? (i := 180) (by decide +kernel), List.mem_of_getElem? (i := 598) (by decide +kernel), List.mem_of_getElem? (i := 599) (by decide +kernel)⟩
theorem lw_p31 : lw_okq (⟨"HandedVoices$Spread", "seekWays", "(Z)V"⟩, 11) := ⟨⟨by decide +kernel, by decide +kernel⟩, List.mem_of_getElem? (i := 180) (by decide +kernel), List.mem_of_getElem? (i := 602) (by decide +kernel), List.mem_of_getElem? (i := 603) (by decide +kernel)⟩
def lw_privs_2 : List (MethodName × Nat) := [(⟨"HandedVoices$HallText", "signOf", "(Ljava/lang/String;)I"⟩, 6), (⟨"HandedVoices$HallText", "figuresOf", "()Z"⟩, 6), (⟨"HandedVoices$Rules", "add", "(I)V"⟩, 6), (⟨"HandedVoices$HallText", "need", "()Z"⟩, 6), (⟨"HandedVoices$HallText", "ring", "()Z"⟩, 6), (⟨"HandedVoices$Law", "adopt", "(LHandedVoices$Rules;)LHandedVoices$Rules;"⟩, 5), (⟨"HandedVoices$Law", "bars", "(III)Z"⟩, 5), (⟨"HandedVoices$Spread", "lay", "(IIIII)V"⟩, 11), (⟨"HandedVoices$Spread", "layFirm", "(IIIII)V"⟩, 11), (⟨"HandedVoices$Spread", "send", "(III)V"⟩, 11), (⟨"HandedVoices$Spread", "stay", "(II)V"⟩, 11), (⟨"HandedVoices$Hands", "isSelf", "(II)Z"⟩, 9), (⟨"HandedVoices$Spread", "layHand", "(II)V"⟩, 11), (⟨"HandedVoices$Hands", "surestOf", "(II)I"⟩, 9), (⟨"HandedVoices$Spread", "layOrders", "()V"⟩, 11), (⟨"HandedVoices$Spread", "seekWays", "(Z)V"⟩, 11)]
theorem lw_r2 : ∀ q ∈ lw_privs_2, lw_okq q := List.forall_mem_cons.mpr ⟨lw_p16, List.forall_mem_cons.mpr ⟨lw_p17, List.forall_mem_cons.mpr ⟨lw_p18, List.forall_mem_cons.mpr ⟨lw_p19, List.forall_mem_cons.mpr ⟨lw_p20, List.forall_mem_cons.mpr ⟨lw_p21, List.forall_mem_cons.mpr ⟨lw_p22, List.forall_mem_cons.mpr ⟨lw_p23, List.forall_mem_cons.mpr ⟨lw_p24, List.forall_mem_cons.mpr ⟨lw_p25, List.forall_mem_cons.mpr ⟨lw_p26, List.forall_mem_cons.mpr ⟨lw_p27, List.forall_mem_cons.mpr ⟨lw_p28, List.forall_mem_cons.mpr ⟨lw_p29, List.forall_mem_cons.mpr ⟨lw_p30, List.forall_mem_cons.mpr ⟨lw_p31, fun _ h => absurd h List.not_mem_nil⟩⟩⟩⟩⟩⟩⟩⟩⟩⟩⟩⟩⟩⟩⟩⟩
theorem lw_p32 : lw_okq (⟨"HandedVoices$Spread", "openNames", "([I)I"⟩, 11) := ⟨⟨by decide +kernel, by decide +kernel⟩, List.mem_of_getElem? (i := 180) (by decide +kernel), List.mem_of_getElem? (i := 606) (by decide +kernel), List.mem_of_getElem? (i := 607) (by decide +kernel)⟩
theorem lw_p33 : lw_okq (⟨"HandedVoices$Spread", "reachAll", "(I)Z"⟩, 11) := ⟨⟨by decide +kernel, by decide +kernel⟩, List.mem_of_getElem? (i := 180) (by decide +kernel), List.mem_of_getElem? (i := 616) (by decide +kernel), List.mem_of_getElem? (i := 617) (by decide +kernel)⟩
theorem lw_p34 : lw_okq (⟨"HandedVoices$Spread", "nameOf", "(II)I"⟩, 11) := ⟨⟨by decide +kernel, by decide +kernel⟩, List.mem_of_getElem? (i := 180) (by decide +kernel), List.mem_of_getElem? (i := 620) (by decide +kernel), List.mem_of_getElem? (i := 621) (by decide +kernel)⟩
theorem lw_p35 : lw_okq (⟨"HandedVoices$Spread", "reaching", "()I"⟩, 11) := ⟨⟨by decide +kernel, by decide +kernel⟩, List.mem_of_getElem? (i := 180) (by decide +kernel), List.mem_of_getElem? (i := 624) (by decide +kernel), List.mem_of_getElem? (i := 625) (by decide +kernel)⟩
theorem lw_p36 : lw_okq (⟨"HandedVoices$Tally", "reckonNow", "(I)V"⟩, 10) := ⟨⟨by decide +kernel, by decide +kernel⟩, List.mem_of_getElem? (i := 227) (by decide +kernel), List.mem_of_getElem? (i := 636) (by decide +kernel), List.mem_of_getElem? (i := 637) (by decide +kernel)⟩
theorem lw_p37 : lw_okq (⟨"HandedVoices$Tally", "reckon", "(IIIII)V"⟩, 10) := ⟨⟨by decide +kernel, by decide +kernel⟩, List.mem_of_getElem? (i := 227) (by decide +kernel), List.mem_of_getElem? (i := 640) (by decide +kernel), List.mem_of_getElem? (i := 641) (by decide +kernel)⟩
theorem lw_p38 : lw_okq (⟨"HandedVoices$Tally", "weigh", "()V"⟩, 10) := ⟨⟨by decide +kernel, by decide +kernel⟩, List.mem_of_getElem? (i := 227) (by decide +kernel), List.mem_of_getElem? (i := 645) (by decide +kernel), List.mem_of_getElem? (i := 646) (by decide +kernel)⟩
theorem lw_p39 : lw_okq (⟨"HandedVoices$Tally", "listHeard", "(I)I"⟩, 10) := ⟨⟨by decide +kernel, by decide +kernel⟩, List.mem_of_getElem? (i := 227) (by decide +kernel), List.mem_of_getElem? (i := 653) (by decide +kernel), List.mem_of_getElem? (i := 654) (by decide +kernel)⟩
theorem lw_p40 : lw_okq (⟨"HandedVoices$Tally", "fillRows", "(I)V"⟩, 10) := ⟨⟨by decide +kernel, by decide +kernel⟩, List.mem_of_getElem? (i := 227) (by decide +kernel), List.mem_of_getElem? (i := 657) (by decide +kernel), List.mem_of_getElem? (i := 658) (by decide +kernel)⟩
theorem lw_p41 : lw_okq (⟨"HandedVoices$Tally", "unroll", "(I)J"⟩, 10) := ⟨⟨by decide +kernel, by decide +kernel⟩, List.mem_of_getElem? (i := 227) (by decide +kernel), List.mem_of_getElem? (i := 662) (by decide +kernel), List.mem_of_getElem? (i := 663) (by decide +kernel)⟩
theorem lw_p42 : lw_okq (⟨"HandedVoices$Tally", "sumOf", "(I)J"⟩, 10) := ⟨⟨by decide +kernel, by decide +kernel⟩, List.mem_of_getElem? (i := 227) (by decide +kernel), List.mem_of_getElem? (i := 687) (by decide +kernel), List.mem_of_getElem? (i := 688) (by decide +kernel)⟩
theorem lw_p43 : lw_okq (⟨"HandedVoices$Tally", "decides", "(J)Z"⟩, 10) := ⟨⟨by decide +kernel, by decide +kernel⟩, List.mem_of_getElem? (i := 227) (by decide +kernel), List.mem_of_getElem? (i := 691) (by decide +kernel), List.mem_of_getElem? (i := 692) (by decide +kernel)⟩
theorem lw_p44 : lw_okq (⟨"HandedVoices$Tally", "withVoices", "()I"⟩, 10) := ⟨⟨by decide +kernel, by decide +kernel⟩, List.mem_of_getElem? (i := 227) (by decide +kernel), List.mem_of_getElem? (i := 703) (by decide +kernel), List.mem_of_getElem? (i := 704) (by decide +kernel)⟩
theorem lw_p45 : lw_okq (⟨"HandedVoices$Tally", "chanceIf", "(IIII)J"⟩, 10) := ⟨⟨by decide +kernel, by decide +kernel⟩, List.mem_of_getElem? (i := 227) (by decide +kernel), List.mem_of_getElem? (i := 722) (by decide +kernel), List.mem_of_getElem? (i := 723) (by decide +kernel)⟩
theorem lw_p46 : lw_okq (⟨"HandedVoices$Tally", "chance", "(I)J"⟩, 10) := ⟨⟨by decide +kernel, by decide +kernel⟩, List.mem_of_getElem? (i := 227) (by decide +kernel), List.mem_of_getElem? (i := 726) (by decide +kernel), List.mem_of_getElem? (i := 727) (by decide +kernel)⟩
theorem lw_p47 : lw_okq (⟨"HandedVoices$Tally", "fork", "(IJI)V"⟩, 10) := ⟨⟨by decide +kernel, by decide +kernel⟩, List.mem_of_getElem? (i := 227) (by decide +kernel), List.mem_of_getElem? (i := 733) (by decide +kernel), List.mem_of_getElem? (i := 734) (by decide +kernel)⟩
def lw_privs_3 : List (MethodName × Nat) := [(⟨"HandedVoices$Spread", "openNames", "([I)I"⟩, 11), (⟨"HandedVoices$Spread", "reachAll", "(I)Z"⟩, 11), (⟨"HandedVoices$Spread", "nameOf", "(II)I"⟩, 11), (⟨"HandedVoices$Spread", "reaching", "()I"⟩, 11), (⟨"HandedVoices$Tally", "reckonNow", "(I)V"⟩, 10), (⟨"HandedVoices$Tally", "reckon", "(IIIII)V"⟩, 10), (⟨"HandedVoices$Tally", "weigh", "()V"⟩, 10), (⟨"HandedVoices$Tally", "listHeard", "(I)I"⟩, 10), (⟨"HandedVoices$Tally", "fillRows", "(I)V"⟩, 10), (⟨"HandedVoices$Tally", "unroll", "(I)J"⟩, 10), (⟨"HandedVoices$Tally", "sumOf", "(I)J"⟩, 10), (⟨"HandedVoices$Tally", "decides", "(J)Z"⟩, 10), (⟨"HandedVoices$Tally", "withVoices", "()I"⟩, 10), (⟨"HandedVoices$Tally", "chanceIf", "(IIII)J"⟩, 10), (⟨"HandedVoices$Tally", "chance", "(I)J"⟩, 10), (⟨"HandedVoices$Tally", "fork", "(IJI)V"⟩, 10)]
theorem lw_r3 : ∀ q ∈ lw_privs_3, lw_okq q := List.forall_mem_cons.mpr ⟨lw_p32, List.forall_mem_cons.mpr ⟨lw_p33, List.forall_mem_cons.mpr ⟨lw_p34, List.forall_mem_cons.mpr ⟨lw_p35, List.forall_mem_cons.mpr ⟨lw_p36, List.forall_mem_cons.mpr ⟨lw_p37, List.forall_mem_cons.mpr ⟨lw_p38, List.forall_mem_cons.mpr ⟨lw_p39, List.forall_mem_cons.mpr ⟨lw_p40, List.forall_mem_cons.mpr ⟨lw_p41, List.forall_mem_cons.mpr ⟨lw_p42, List.forall_mem_cons.mpr ⟨lw_p43, List.forall_mem_cons.mpr ⟨lw_p44, List.forall_mem_cons.mpr ⟨lw_p45, List.forall_mem_cons.mpr ⟨lw_p46, List.forall_mem_cons.mpr ⟨lw_p47, fun _ h => absurd h List.not_mem_nil⟩⟩⟩⟩⟩⟩⟩⟩⟩⟩⟩⟩⟩⟩⟩⟩
theorem lw_p48 : lw_okq (⟨"HandedVoices$Wishes", "firstBreach", "(I)I"⟩, 5) := ⟨⟨by decide +kernel, by decide +kernel⟩, List.mem_of_getElem? (i := 271) (by decide +kernel), List.mem_of_getElem? (i := 748) (by decide +kernel), List.mem_of_getElem? (i := 749) (by decide +kernel)⟩
theorem lw_p49 : lw_okq (⟨"HandedVoices$Wishes", "firstWish", "(I)I"⟩, 5) := ⟨⟨by decide +kernel, by decide +kernel⟩, List.mem_of_getElem? (i := 271) (by decide +kernel), List.mem_of_getElem? (i := 758) (by decide +kernel), List.mem_of_getElem? (i := 759) (by decide +kernel)⟩
theorem lw_p50 : lw_okq (⟨"HandedVoices$Tally", "highest", "()J"⟩, 10) := ⟨⟨by decide +kernel, by decide +kernel⟩, List.mem_of_getElem? (i := 227) (by decide +kernel), List.mem_of_getElem? (i := 771) (by decide +kernel), List.mem_of_getElem? (i := 772) (by decide +kernel)⟩
theorem lw_p51 : lw_okq (⟨"HandedVoices$Wishes", "bestMending", "(III)I"⟩, 5) := ⟨⟨by decide +kernel, by decide +kernel⟩, List.mem_of_getElem? (i := 271) (by decide +kernel), List.mem_of_getElem? (i := 782) (by decide +kernel), List.mem_of_getElem? (i := 783) (by decide +kernel)⟩
theorem lw_p52 : lw_okq (⟨"HandedVoices$Wishes", "movers", "(I)I"⟩, 5) := ⟨⟨by decide +kernel, by decide +kernel⟩, List.mem_of_getElem? (i := 271) (by decide +kernel), List.mem_of_getElem? (i := 787) (by decide +kernel), List.mem_of_getElem? (i := 788) (by decide +kernel)⟩
theorem lw_p53 : lw_okq (⟨"HandedVoices$Wishes", "lastOtherwise", "(I)I"⟩, 5) := ⟨⟨by decide +kernel, by decide +kernel⟩, List.mem_of_getElem? (i := 271) (by decide +kernel), List.mem_of_getElem? (i := 800) (by decide +kernel), List.mem_of_getElem? (i := 801) (by decide +kernel)⟩
theorem lw_p54 : lw_okq (⟨"HandedVoices$Wishes", "decidedAt", "(II)Z"⟩, 5) := ⟨⟨by decide +kernel, by decide +kernel⟩, List.mem_of_getElem? (i := 271) (by decide +kernel), List.mem_of_getElem? (i := 804) (by decide +kernel), List.mem_of_getElem? (i := 805) (by decide +kernel)⟩
theorem lw_p55 : lw_okq (⟨"HandedVoices$Hands", "takenBackAt", "(II)I"⟩, 9) := ⟨⟨by decide +kernel, by decide +kernel⟩, List.mem_of_getElem? (i := 29) (by decide +kernel), List.mem_of_getElem? (i := 812) (by decide +kernel), List.mem_of_getElem? (i := 813) (by decide +kernel)⟩
theorem lw_p56 : lw_okq (⟨"HandedVoices$Wishes", "fewestToWin", "(I)I"⟩, 5) := ⟨⟨by decide +kernel, by decide +kernel⟩, List.mem_of_getElem? (i := 271) (by decide +kernel), List.mem_of_getElem? (i := 820) (by decide +kernel), List.mem_of_getElem? (i := 821) (by decide +kernel)⟩
theorem lw_p57 : lw_okq (⟨"HandedVoices$Tapes", "exists", "(I)Z"⟩, 3) := ⟨⟨by decide +kernel, by decide +kernel⟩, List.mem_of_getElem? (i := 317) (by decide +kernel), List.mem_of_getElem? (i := 828) (by decide +kernel), List.mem_of_getElem? (i := 829) (by decide +kernel)⟩
theorem lw_p58 : lw_okq (⟨"HandedVoices$Tapes", "get", "(II)J"⟩, 3) := ⟨⟨by decide +kernel, by decide +kernel⟩, List.mem_of_getElem? (i := 317) (by decide +kernel), List.mem_of_getElem? (i := 832) (by decide +kernel), List.mem_of_getElem? (i := 833) (by decide +kernel)⟩
theorem lw_p59 : lw_okq (⟨"HandedVoices$Acts", "clear", "()V"⟩, 5) := ⟨⟨by decide +kernel, by decide +kernel⟩, List.mem_of_getElem? (i := 293) (by decide +kernel), List.mem_of_getElem? (i := 840) (by decide +kernel), List.mem_of_getElem? (i := 841) (by decide +kernel)⟩
theorem lw_p60 : lw_okq (⟨"HandedVoices$Acts", "run", "(IIIII)I"⟩, 5) := ⟨⟨by decide +kernel, by decide +kernel⟩, List.mem_of_getElem? (i := 293) (by decide +kernel), List.mem_of_getElem? (i := 844) (by decide +kernel), List.mem_of_getElem? (i := 845) (by decide +kernel)⟩
theorem lw_p61 : lw_okq (⟨"HandedVoices$Acts", "gives", "(I)I"⟩, 5) := ⟨⟨by decide +kernel, by decide +kernel⟩, List.mem_of_getElem? (i := 293) (by decide +kernel), List.mem_of_getElem? (i := 848) (by decide +kernel), List.mem_of_getElem? (i := 849) (by decide +kernel)⟩
theorem lw_p62 : lw_okq (⟨"HandedVoices$Acts", "begin", "(I)V"⟩, 5) := ⟨⟨by decide +kernel, by decide +kernel⟩, List.mem_of_getElem? (i := 293) (by decide +kernel), List.mem_of_getElem? (i := 852) (by decide +kernel), List.mem_of_getElem? (i := 853) (by decide +kernel)⟩
theorem lw_p63 : lw_okq (⟨"HandedVoices$Acts", "holds", "(I)I"⟩, 5) := ⟨⟨by decide +kernel, by decide +kernel⟩, List.mem_of_getElem? (i := 293) (by decide +kernel), List.mem_of_getElem? (i := 856) (by decide +kernel), List.mem_of_getElem? (i := 857) (by decide +kernel)⟩
def lw_privs_4 : List (MethodName × Nat) := [(⟨"HandedVoices$Wishes", "firstBreach", "(I)I"⟩, 5), (⟨"HandedVoices$Wishes", "firstWish", "(I)I"⟩, 5), (⟨"HandedVoices$Tally", "highest", "()J"⟩, 10), (⟨"HandedVoices$Wishes", "bestMending", "(III)I"⟩, 5), (⟨"HandedVoices$Wishes", "movers", "(I)I"⟩, 5), (⟨"HandedVoices$Wishes", "lastOtherwise", "(I)I"⟩, 5), (⟨"HandedVoices$Wishes", "decidedAt", "(II)Z"⟩, 5), (⟨"HandedVoices$Hands", "takenBackAt", "(II)I"⟩, 9), (⟨"HandedVoices$Wishes", "fewestToWin", "(I)I"⟩, 5), (⟨"HandedVoices$Tapes", "exists", "(I)Z"⟩, 3), (⟨"HandedVoices$Tapes", "get", "(II)J"⟩, 3), (⟨"HandedVoices$Acts", "clear", "()V"⟩, 5), (⟨"HandedVoices$Acts", "run", "(IIIII)I"⟩, 5), (⟨"HandedVoices$Acts", "gives", "(I)I"⟩, 5), (⟨"HandedVoices$Acts", "begin", "(I)V"⟩, 5), (⟨"HandedVoices$Acts", "holds", "(I)I"⟩, 5)]
theorem lw_r4 : ∀ q ∈ lw_privs_4, lw_okq q := List.forall_mem_cons.mpr ⟨lw_p48, List.forall_mem_cons.mpr ⟨lw_p49, List.forall_mem_cons.mpr ⟨lw_p50, List.forall_mem_cons.mpr ⟨lw_p51, List.forall_mem_cons.mpr ⟨lw_p52, List.forall_mem_cons.mpr ⟨lw_p53, List.forall_mem_cons.mpr ⟨lw_p54, List.forall_mem_cons.mpr ⟨lw_p55, List.forall_mem_cons.mpr ⟨lw_p56, List.forall_mem_cons.mpr ⟨lw_p57, List.forall_mem_cons.mpr ⟨lw_p58, List.forall_mem_cons.mpr ⟨lw_p59, List.forall_mem_cons.mpr ⟨lw_p60, List.forall_mem_cons.mpr ⟨lw_p61, List.forall_mem_cons.mpr ⟨lw_p62, List.forall_mem_cons.mpr ⟨lw_p63, fun _ h => absurd h List.not_mem_nil⟩⟩⟩⟩⟩⟩⟩⟩⟩⟩⟩⟩⟩⟩⟩⟩
theorem lw_p64 : lw_okq (⟨"HandedVoices$Acts", "tells", "(I)I"⟩, 5) := ⟨⟨by decide +kernel, by decide +kernel⟩, List.mem_of_getElem? (i := 293) (by decide +kernel), List.mem_of_getElem? (i := 860) (by decide +kernel), List.mem_of_getElem? (i := 861) (by decide +kernel)⟩
theorem lw_p65 : lw_okq (⟨"HandedVoices$Acts", "tellsAsHand", "(I)I"⟩, 5) := ⟨⟨by decide +kernel, by decide +kernel⟩, List.mem_of_getElem? (i := 293) (by decide +kernel), List.mem_of_getElem? (i := 864) (by decide +kernel), List.mem_of_getElem? (i := 865) (by decide +kernel)⟩
theorem lw_p66 : lw_okq (⟨"HandedVoices$Acts", "kept", "()I"⟩, 5) := ⟨⟨by decide +kernel, by decide +kernel⟩, List.mem_of_getElem? (i := 293) (by decide +kernel), List.mem_of_getElem? (i := 872) (by decide +kernel), List.mem_of_getElem? (i := 873) (by decide +kernel)⟩
theorem lw_p67 : lw_okq (⟨"HandedVoices$Tapes", "reset", "(III)V"⟩, 3) := ⟨⟨by decide +kernel, by decide +kernel⟩, List.mem_of_getElem? (i := 317) (by decide +kernel), List.mem_of_getElem? (i := 891) (by decide +kernel), List.mem_of_getElem? (i := 892) (by decide +kernel)⟩
theorem lw_p68 : lw_okq (⟨"HandedVoices$Tapes", "put", "(IIJ)V"⟩, 3) := ⟨⟨by decide +kernel, by decide +kernel⟩, List.mem_of_getElem? (i := 317) (by decide +kernel), List.mem_of_getElem? (i := 899) (by decide +kernel), List.mem_of_getElem? (i := 900) (by decide +kernel)⟩
theorem lw_p69 : lw_okq (⟨"HandedVoices$Tapes", "holds", "(III)Z"⟩, 3) := ⟨⟨by decide +kernel, by decide +kernel⟩, List.mem_of_getElem? (i := 317) (by decide +kernel), List.mem_of_getElem? (i := 914) (by decide +kernel), List.mem_of_getElem? (i := 915) (by decide +kernel)⟩
theorem lw_p70 : lw_okq (⟨"HandedVoices$Tapes", "copy", "(IIIII)V"⟩, 3) := ⟨⟨by decide +kernel, by decide +kernel⟩, List.mem_of_getElem? (i := 317) (by decide +kernel), List.mem_of_getElem? (i := 918) (by decide +kernel), List.mem_of_getElem? (i := 919) (by decide +kernel)⟩
theorem lw_p71 : lw_okq (⟨"HandedVoicesModel", "put", "(IIIII)V"⟩, 52) := ⟨⟨by decide +kernel, by decide +kernel⟩, List.mem_of_getElem? (i := 925) (by decide +kernel), List.mem_of_getElem? (i := 1093) (by decide +kernel), List.mem_of_getElem? (i := 1094) (by decide +kernel)⟩
theorem lw_p72 : lw_okq (⟨"HandedVoicesModel", "isMember", "(I)Z"⟩, 52) := ⟨⟨by decide +kernel, by decide +kernel⟩, List.mem_of_getElem? (i := 925) (by decide +kernel), List.mem_of_getElem? (i := 1101) (by decide +kernel), List.mem_of_getElem? (i := 1102) (by decide +kernel)⟩
theorem lw_p73 : lw_okq (⟨"HandedVoicesModel", "in", "(III)Z"⟩, 52) := ⟨⟨by decide +kernel, by decide +kernel⟩, List.mem_of_getElem? (i := 925) (by decide +kernel), List.mem_of_getElem? (i := 1105) (by decide +kernel), List.mem_of_getElem? (i := 1106) (by decide +kernel)⟩
theorem lw_p74 : lw_okq (⟨"HandedVoicesModel", "isMatter", "(I)Z"⟩, 52) := ⟨⟨by decide +kernel, by decide +kernel⟩, List.mem_of_getElem? (i := 925) (by decide +kernel), List.mem_of_getElem? (i := 1109) (by decide +kernel), List.mem_of_getElem? (i := 1110) (by decide +kernel)⟩
theorem lw_p75 : lw_okq (⟨"HandedVoicesModel", "goes", "(I)Z"⟩, 52) := ⟨⟨by decide +kernel, by decide +kernel⟩, List.mem_of_getElem? (i := 925) (by decide +kernel), List.mem_of_getElem? (i := 1145) (by decide +kernel), List.mem_of_getElem? (i := 1146) (by decide +kernel)⟩
theorem lw_p76 : lw_okq (⟨"HandedVoicesModel", "takesClause", "()Z"⟩, 52) := ⟨⟨by decide +kernel, by decide +kernel⟩, List.mem_of_getElem? (i := 925) (by decide +kernel), List.mem_of_getElem? (i := 1149) (by decide +kernel), List.mem_of_getElem? (i := 1150) (by decide +kernel)⟩
theorem lw_p77 : lw_okq (⟨"HandedVoicesModel", "next", "()I"⟩, 52) := ⟨⟨by decide +kernel, by decide +kernel⟩, List.mem_of_getElem? (i := 925) (by decide +kernel), List.mem_of_getElem? (i := 1153) (by decide +kernel), List.mem_of_getElem? (i := 1154) (by decide +kernel)⟩
theorem lw_p78 : lw_okq (⟨"HandedVoicesModel", "takesWord", "(II)Z"⟩, 52) := ⟨⟨by decide +kernel, by decide +kernel⟩, List.mem_of_getElem? (i := 925) (by decide +kernel), List.mem_of_getElem? (i := 1157) (by decide +kernel), List.mem_of_getElem? (i := 1158) (by decide +kernel)⟩
theorem lw_p79 : lw_okq (⟨"HandedVoicesModel", "takes", "(I)Z"⟩, 52) := ⟨⟨by decide +kernel, by decide +kernel⟩, List.mem_of_getElem? (i := 925) (by decide +kernel), List.mem_of_getElem? (i := 1161) (by decide +kernel), List.mem_of_getElem? (i := 1162) (by decide +kernel)⟩
def lw_privs_5 : List (MethodName × Nat) := [(⟨"HandedVoices$Acts", "tells", "(I)I"⟩, 5), (⟨"HandedVoices$Acts", "tellsAsHand", "(I)I"⟩, 5), (⟨"HandedVoices$Acts", "kept", "()I"⟩, 5), (⟨"HandedVoices$Tapes", "reset", "(III)V"⟩, 3), (⟨"HandedVoices$Tapes", "put", "(IIJ)V"⟩, 3), (⟨"HandedVoices$Tapes", "holds", "(III)Z"⟩, 3), (⟨"HandedVoices$Tapes", "copy", "(IIIII)V"⟩, 3), (⟨"HandedVoicesModel", "put", "(IIIII)V"⟩, 52), (⟨"HandedVoicesModel", "isMember", "(I)Z"⟩, 52), (⟨"HandedVoicesModel", "in", "(III)Z"⟩, 52), (⟨"HandedVoicesModel", "isMatter", "(I)Z"⟩, 52), (⟨"HandedVoicesModel", "goes", "(I)Z"⟩, 52), (⟨"HandedVoicesModel", "takesClause", "()Z"⟩, 52), (⟨"HandedVoicesModel", "next", "()I"⟩, 52), (⟨"HandedVoicesModel", "takesWord", "(II)Z"⟩, 52), (⟨"HandedVoicesModel", "takes", "(I)Z"⟩, 52)]
theorem lw_r5 : ∀ q ∈ lw_privs_5, lw_okq q := List.forall_mem_cons.mpr ⟨lw_p64, List.forall_mem_cons.mpr ⟨lw_p65, List.forall_mem_cons.mpr ⟨lw_p66, List.forall_mem_cons.mpr ⟨lw_p67, List.forall_mem_cons.mpr ⟨lw_p68, List.forall_mem_cons.mpr ⟨lw_p69, List.forall_mem_cons.mpr ⟨lw_p70, List.forall_mem_cons.mpr ⟨lw_p71, List.forall_mem_cons.mpr ⟨lw_p72, List.forall_mem_cons.mpr ⟨lw_p73, List.forall_mem_cons.mpr ⟨lw_p74, List.forall_mem_cons.mpr ⟨lw_p75, List.forall_mem_cons.mpr ⟨lw_p76, List.forall_mem_cons.mpr ⟨lw_p77, List.forall_mem_cons.mpr ⟨lw_p78, List.forall_mem_cons.mpr ⟨lw_p79, fun _ h => absurd h List.not_mem_nil⟩⟩⟩⟩⟩⟩⟩⟩⟩⟩⟩⟩⟩⟩⟩⟩
theorem lw_p80 : lw_okq (⟨"HandedVoicesModel", "takesE", "()Z"⟩, 52) := ⟨⟨by decide +kernel, by decide +kernel⟩, List.mem_of_getElem? (i := 925) (by decide +kernel), List.mem_of_getElem? (i := 1165) (by decide +kernel), List.mem_of_getElem? (i := 1166) (by decide +kernel)⟩
theorem lw_p81 : lw_okq (⟨"HandedVoicesModel", "takesTest", "()Z"⟩, 52) := ⟨⟨by decide +kernel, by decide +kernel⟩, List.mem_of_getElem? (i := 925) (by decide +kernel), List.mem_of_getElem? (i := 1169) (by decide +kernel), List.mem_of_getElem? (i := 1170) (by decide +kernel)⟩
theorem lw_p82 : lw_okq (⟨"HandedVoicesModel", "takesNumber", "(Z)Z"⟩, 52) := ⟨⟨by decide +kernel, by decide +kernel⟩, List.mem_of_getElem? (i := 925) (by decide +kernel), List.mem_of_getElem? (i := 1173) (by decide +kernel), List.mem_of_getElem? (i := 1174) (by decide +kernel)⟩
theorem lw_p83 : lw_okq (⟨"HandedVoicesModel", "isDigit", "()Z"⟩, 52) := ⟨⟨by decide +kernel, by decide +kernel⟩, List.mem_of_getElem? (i := 925) (by decide +kernel), List.mem_of_getElem? (i := 1177) (by decide +kernel), List.mem_of_getElem? (i := 1178) (by decide +kernel)⟩
theorem lw_p84 : lw_okq (⟨"HandedVoicesModel", "push", "(Z)V"⟩, 52) := ⟨⟨by decide +kernel, by decide +kernel⟩, List.mem_of_getElem? (i := 925) (by decide +kernel), List.mem_of_getElem? (i := 1181) (by decide +kernel), List.mem_of_getElem? (i := 1182) (by decide +kernel)⟩
theorem lw_p85 : lw_okq (⟨"HandedVoicesModel", "settleSigns", "(I)V"⟩, 52) := ⟨⟨by decide +kernel, by decide +kernel⟩, List.mem_of_getElem? (i := 925) (by decide +kernel), List.mem_of_getElem? (i := 1185) (by decide +kernel), List.mem_of_getElem? (i := 1186) (by decide +kernel)⟩
theorem lw_p86 : lw_okq (⟨"HandedVoicesModel", "takesNeed", "()Z"⟩, 52) := ⟨⟨by decide +kernel, by decide +kernel⟩, List.mem_of_getElem? (i := 925) (by decide +kernel), List.mem_of_getElem? (i := 1189) (by decide +kernel), List.mem_of_getElem? (i := 1190) (by decide +kernel)⟩
theorem lw_p87 : lw_okq (⟨"HandedVoicesModel", "isBar", "(III)Z"⟩, 52) := ⟨⟨by decide +kernel, by decide +kernel⟩, List.mem_of_getElem? (i := 925) (by decide +kernel), List.mem_of_getElem? (i := 1199) (by decide +kernel), List.mem_of_getElem? (i := 1200) (by decide +kernel)⟩
theorem lw_p88 : lw_okq (⟨"HandedVoicesModel", "findAll", "(II)V"⟩, 52) := ⟨⟨by decide +kernel, by decide +kernel⟩, List.mem_of_getElem? (i := 925) (by decide +kernel), List.mem_of_getElem? (i := 1207) (by decide +kernel), List.mem_of_getElem? (i := 1208) (by decide +kernel)⟩
theorem lw_p89 : lw_okq (⟨"HandedVoicesModel", "findHands", "(II)V"⟩, 52) := ⟨⟨by decide +kernel, by decide +kernel⟩, List.mem_of_getElem? (i := 925) (by decide +kernel), List.mem_of_getElem? (i := 1211) (by decide +kernel), List.mem_of_getElem? (i := 1212) (by decide +kernel)⟩
theorem lw_p90 : lw_okq (⟨"HandedVoicesModel", "findHand", "(II)V"⟩, 52) := ⟨⟨by decide +kernel, by decide +kernel⟩, List.mem_of_getElem? (i := 925) (by decide +kernel), List.mem_of_getElem? (i := 1215) (by decide +kernel), List.mem_of_getElem? (i := 1216) (by decide +kernel)⟩
theorem lw_p91 : lw_okq (⟨"HandedVoicesModel", "hands", "(IIII)V"⟩, 52) := ⟨⟨by decide +kernel, by decide +kernel⟩, List.mem_of_getElem? (i := 925) (by decide +kernel), List.mem_of_getElem? (i := 1219) (by decide +kernel), List.mem_of_getElem? (i := 1220) (by decide +kernel)⟩
theorem lw_p92 : lw_okq (⟨"HandedVoicesModel", "surestOf", "(II)I"⟩, 52) := ⟨⟨by decide +kernel, by decide +kernel⟩, List.mem_of_getElem? (i := 925) (by decide +kernel), List.mem_of_getElem? (i := 1223) (by decide +kernel), List.mem_of_getElem? (i := 1224) (by decide +kernel)⟩
theorem lw_p93 : lw_okq (⟨"HandedVoicesModel", "findBest", "(I)V"⟩, 52) := ⟨⟨by decide +kernel, by decide +kernel⟩, List.mem_of_getElem? (i := 925) (by decide +kernel), List.mem_of_getElem? (i := 1227) (by decide +kernel), List.mem_of_getElem? (i := 1228) (by decide +kernel)⟩
theorem lw_p94 : lw_okq (⟨"HandedVoicesModel", "isOrder", "(II)Z"⟩, 52) := ⟨⟨by decide +kernel, by decide +kernel⟩, List.mem_of_getElem? (i := 925) (by decide +kernel), List.mem_of_getElem? (i := 1231) (by decide +kernel), List.mem_of_getElem? (i := 1232) (by decide +kernel)⟩
theorem lw_p95 : lw_okq (⟨"HandedVoicesModel", "putOrders", "(II)Z"⟩, 52) := ⟨⟨by decide +kernel, by decide +kernel⟩, List.mem_of_getElem? (i := 925) (by decide +kernel), List.mem_of_getElem? (i := 1235) (by decide +kernel), List.mem_of_getElem? (i := 1236) (by decide +kernel)⟩
def lw_privs_6 : List (MethodName × Nat) := [(⟨"HandedVoicesModel", "takesE", "()Z"⟩, 52), (⟨"HandedVoicesModel", "takesTest", "()Z"⟩, 52), (⟨"HandedVoicesModel", "takesNumber", "(Z)Z"⟩, 52), (⟨"HandedVoicesModel", "isDigit", "()Z"⟩, 52), (⟨"HandedVoicesModel", "push", "(Z)V"⟩, 52), (⟨"HandedVoicesModel", "settleSigns", "(I)V"⟩, 52), (⟨"HandedVoicesModel", "takesNeed", "()Z"⟩, 52), (⟨"HandedVoicesModel", "isBar", "(III)Z"⟩, 52), (⟨"HandedVoicesModel", "findAll", "(II)V"⟩, 52), (⟨"HandedVoicesModel", "findHands", "(II)V"⟩, 52), (⟨"HandedVoicesModel", "findHand", "(II)V"⟩, 52), (⟨"HandedVoicesModel", "hands", "(IIII)V"⟩, 52), (⟨"HandedVoicesModel", "surestOf", "(II)I"⟩, 52), (⟨"HandedVoicesModel", "findBest", "(I)V"⟩, 52), (⟨"HandedVoicesModel", "isOrder", "(II)Z"⟩, 52), (⟨"HandedVoicesModel", "putOrders", "(II)Z"⟩, 52)]
theorem lw_r6 : ∀ q ∈ lw_privs_6, lw_okq q := List.forall_mem_cons.mpr ⟨lw_p80, List.forall_mem_cons.mpr ⟨lw_p81, List.forall_mem_cons.mpr ⟨lw_p82, List.forall_mem_cons.mpr ⟨lw_p83, List.forall_mem_cons.mpr ⟨lw_p84, List.forall_mem_cons.mpr ⟨lw_p85, List.forall_mem_cons.mpr ⟨lw_p86, List.forall_mem_cons.mpr ⟨lw_p87, List.forall_mem_cons.mpr ⟨lw_p88, List.forall_mem_cons.mpr ⟨lw_p89, List.forall_mem_cons.mpr ⟨lw_p90, List.forall_mem_cons.mpr ⟨lw_p91, List.forall_mem_cons.mpr ⟨lw_p92, List.forall_mem_cons.mpr ⟨lw_p93, List.forall_mem_cons.mpr ⟨lw_p94, List.forall_mem_cons.mpr ⟨lw_p95, fun _ h => absurd h List.not_mem_nil⟩⟩⟩⟩⟩⟩⟩⟩⟩⟩⟩⟩⟩⟩⟩⟩
theorem lw_p96 : lw_okq (⟨"HandedVoicesModel", "has", "(II)Z"⟩, 52) := ⟨⟨by decide +kernel, by decide +kernel⟩, List.mem_of_getElem? (i := 925) (by decide +kernel), List.mem_of_getElem? (i := 1239) (by decide +kernel), List.mem_of_getElem? (i := 1240) (by decide +kernel)⟩
theorem lw_p97 : lw_okq (⟨"HandedVoicesModel", "lostNow", "()I"⟩, 52) := ⟨⟨by decide +kernel, by decide +kernel⟩, List.mem_of_getElem? (i := 925) (by decide +kernel), List.mem_of_getElem? (i := 1243) (by decide +kernel), List.mem_of_getElem? (i := 1244) (by decide +kernel)⟩
theorem lw_p98 : lw_okq (⟨"HandedVoicesModel", "ones", "(I)I"⟩, 52) := ⟨⟨by decide +kernel, by decide +kernel⟩, List.mem_of_getElem? (i := 925) (by decide +kernel), List.mem_of_getElem? (i := 1247) (by decide +kernel), List.mem_of_getElem? (i := 1248) (by decide +kernel)⟩
theorem lw_p99 : lw_okq (⟨"HandedVoicesModel", "findVoices", "(II)V"⟩, 52) := ⟨⟨by decide +kernel, by decide +kernel⟩, List.mem_of_getElem? (i := 925) (by decide +kernel), List.mem_of_getElem? (i := 1256) (by decide +kernel), List.mem_of_getElem? (i := 1257) (by decide +kernel)⟩
theorem lw_p100 : lw_okq (⟨"HandedVoicesModel", "unroll", "()V"⟩, 52) := ⟨⟨by decide +kernel, by decide +kernel⟩, List.mem_of_getElem? (i := 925) (by decide +kernel), List.mem_of_getElem? (i := 1260) (by decide +kernel), List.mem_of_getElem? (i := 1261) (by decide +kernel)⟩
theorem lw_p101 : lw_okq (⟨"HandedVoicesModel", "part", "(JJI)J"⟩, 52) := ⟨⟨by decide +kernel, by decide +kernel⟩, List.mem_of_getElem? (i := 925) (by decide +kernel), List.mem_of_getElem? (i := 1265) (by decide +kernel), List.mem_of_getElem? (i := 1266) (by decide +kernel)⟩
theorem lw_p102 : lw_okq (⟨"HandedVoicesModel", "divisor", "(JJ)J"⟩, 52) := ⟨⟨by decide +kernel, by decide +kernel⟩, List.mem_of_getElem? (i := 925) (by decide +kernel), List.mem_of_getElem? (i := 1269) (by decide +kernel), List.mem_of_getElem? (i := 1270) (by decide +kernel)⟩
theorem lw_p103 : lw_okq (⟨"HandedVoicesModel", "thinks", "(I)I"⟩, 52) := ⟨⟨by decide +kernel, by decide +kernel⟩, List.mem_of_getElem? (i := 925) (by decide +kernel), List.mem_of_getElem? (i := 1281) (by decide +kernel), List.mem_of_getElem? (i := 1282) (by decide +kernel)⟩
theorem lw_p104 : lw_okq (⟨"HandedVoicesModel", "decides", "(I)Z"⟩, 52) := ⟨⟨by decide +kernel, by decide +kernel⟩, List.mem_of_getElem? (i := 925) (by decide +kernel), List.mem_of_getElem? (i := 1285) (by decide +kernel), List.mem_of_getElem? (i := 1286) (by decide +kernel)⟩
theorem lw_p105 : lw_okq (⟨"HandedVoicesModel", "speaking", "()I"⟩, 52) := ⟨⟨by decide +kernel, by decide +kernel⟩, List.mem_of_getElem? (i := 925) (by decide +kernel), List.mem_of_getElem? (i := 1297) (by decide +kernel), List.mem_of_getElem? (i := 1298) (by decide +kernel)⟩
theorem lw_p106 : lw_okq (⟨"HandedVoicesModel", "findAlone", "()V"⟩, 52) := ⟨⟨by decide +kernel, by decide +kernel⟩, List.mem_of_getElem? (i := 925) (by decide +kernel), List.mem_of_getElem? (i := 1313) (by decide +kernel), List.mem_of_getElem? (i := 1314) (by decide +kernel)⟩
theorem lw_p107 : lw_okq (⟨"HandedVoicesModel", "findRight", "(I)V"⟩, 52) := ⟨⟨by decide +kernel, by decide +kernel⟩, List.mem_of_getElem? (i := 925) (by decide +kernel), List.mem_of_getElem? (i := 1317) (by decide +kernel), List.mem_of_getElem? (i := 1318) (by decide +kernel)⟩
theorem lw_p108 : lw_okq (⟨"HandedVoicesModel", "keep", "(II)V"⟩, 52) := ⟨⟨by decide +kernel, by decide +kernel⟩, List.mem_of_getElem? (i := 925) (by decide +kernel), List.mem_of_getElem? (i := 1329) (by decide +kernel), List.mem_of_getElem? (i := 1330) (by decide +kernel)⟩
theorem lw_p109 : lw_okq (⟨"HandedVoicesModel", "putBack", "(II)V"⟩, 52) := ⟨⟨by decide +kernel, by decide +kernel⟩, List.mem_of_getElem? (i := 925) (by decide +kernel), List.mem_of_getElem? (i := 1333) (by decide +kernel), List.mem_of_getElem? (i := 1334) (by decide +kernel)⟩
theorem lw_p110 : lw_okq (⟨"HandedVoicesModel", "isLess", "(JJJJ)Z"⟩, 52) := ⟨⟨by decide +kernel, by decide +kernel⟩, List.mem_of_getElem? (i := 925) (by decide +kernel), List.mem_of_getElem? (i := 1337) (by decide +kernel), List.mem_of_getElem? (i := 1338) (by decide +kernel)⟩
theorem lw_p111 : lw_okq (⟨"HandedVoicesModel", "ratherOf", "(I)I"⟩, 52) := ⟨⟨by decide +kernel, by decide +kernel⟩, List.mem_of_getElem? (i := 925) (by decide +kernel), List.mem_of_getElem? (i := 1345) (by decide +kernel), List.mem_of_getElem? (i := 1346) (by decide +kernel)⟩
def lw_privs_7 : List (MethodName × Nat) := [(⟨"HandedVoicesModel", "has", "(II)Z"⟩, 52), (⟨"HandedVoicesModel", "lostNow", "()I"⟩, 52), (⟨"HandedVoicesModel", "ones", "(I)I"⟩, 52), (⟨"HandedVoicesModel", "findVoices", "(II)V"⟩, 52), (⟨"HandedVoicesModel", "unroll", "()V"⟩, 52), (⟨"HandedVoicesModel", "part", "(JJI)J"⟩, 52), (⟨"HandedVoicesModel", "divisor", "(JJ)J"⟩, 52), (⟨"HandedVoicesModel", "thinks", "(I)I"⟩, 52), (⟨"HandedVoicesModel", "decides", "(I)Z"⟩, 52), (⟨"HandedVoicesModel", "speaking", "()I"⟩, 52), (⟨"HandedVoicesModel", "findAlone", "()V"⟩, 52), (⟨"HandedVoicesModel", "findRight", "(I)V"⟩, 52), (⟨"HandedVoicesModel", "keep", "(II)V"⟩, 52), (⟨"HandedVoicesModel", "putBack", "(II)V"⟩, 52), (⟨"HandedVoicesModel", "isLess", "(JJJJ)Z"⟩, 52), (⟨"HandedVoicesModel", "ratherOf", "(I)I"⟩, 52)]
theorem lw_r7 : ∀ q ∈ lw_privs_7, lw_okq q := List.forall_mem_cons.mpr ⟨lw_p96, List.forall_mem_cons.mpr ⟨lw_p97, List.forall_mem_cons.mpr ⟨lw_p98, List.forall_mem_cons.mpr ⟨lw_p99, List.forall_mem_cons.mpr ⟨lw_p100, List.forall_mem_cons.mpr ⟨lw_p101, List.forall_mem_cons.mpr ⟨lw_p102, List.forall_mem_cons.mpr ⟨lw_p103, List.forall_mem_cons.mpr ⟨lw_p104, List.forall_mem_cons.mpr ⟨lw_p105, List.forall_mem_cons.mpr ⟨lw_p106, List.forall_mem_cons.mpr ⟨lw_p107, List.forall_mem_cons.mpr ⟨lw_p108, List.forall_mem_cons.mpr ⟨lw_p109, List.forall_mem_cons.mpr ⟨lw_p110, List.forall_mem_cons.mpr ⟨lw_p111, fun _ h => absurd h List.not_mem_nil⟩⟩⟩⟩⟩⟩⟩⟩⟩⟩⟩⟩⟩⟩⟩⟩
theorem lw_p112 : lw_okq (⟨"HandedVoicesModel", "heapOf", "()J"⟩, 52) := ⟨⟨by decide +kernel, by decide +kernel⟩, List.mem_of_getElem? (i := 925) (by decide +kernel), List.mem_of_getElem? (i := 1357) (by decide +kernel), List.mem_of_getElem? (i := 1358) (by decide +kernel)⟩
theorem lw_p113 : lw_okq (⟨"HandedVoicesModel", "asSelf", "(II)V"⟩, 52) := ⟨⟨by decide +kernel, by decide +kernel⟩, List.mem_of_getElem? (i := 925) (by decide +kernel), List.mem_of_getElem? (i := 1365) (by decide +kernel), List.mem_of_getElem? (i := 1366) (by decide +kernel)⟩
theorem lw_p114 : lw_okq (⟨"HandedVoicesModel", "asBefore", "(I)V"⟩, 52) := ⟨⟨by decide +kernel, by decide +kernel⟩, List.mem_of_getElem? (i := 925) (by decide +kernel), List.mem_of_getElem? (i := 1369) (by decide +kernel), List.mem_of_getElem? (i := 1370) (by decide +kernel)⟩
theorem lw_p115 : lw_okq (⟨"HandedVoicesModel", "isTape", "(I)Z"⟩, 52) := ⟨⟨by decide +kernel, by decide +kernel⟩, List.mem_of_getElem? (i := 925) (by decide +kernel), List.mem_of_getElem? (i := 1385) (by decide +kernel), List.mem_of_getElem? (i := 1386) (by decide +kernel)⟩
theorem lw_p116 : lw_okq (⟨"HandedVoicesModel", "gives", "(III)I"⟩, 52) := ⟨⟨by decide +kernel, by decide +kernel⟩, List.mem_of_getElem? (i := 925) (by decide +kernel), List.mem_of_getElem? (i := 1393) (by decide +kernel), List.mem_of_getElem? (i := 1394) (by decide +kernel)⟩
theorem lw_p117 : lw_okq (⟨"HandedVoicesModel", "body", "(I)V"⟩, 52) := ⟨⟨by decide +kernel, by decide +kernel⟩, List.mem_of_getElem? (i := 925) (by decide +kernel), List.mem_of_getElem? (i := 1397) (by decide +kernel), List.mem_of_getElem? (i := 1398) (by decide +kernel)⟩
theorem lw_p118 : lw_okq (⟨"HandedVoicesModel", "giveGives", "(II)I"⟩, 52) := ⟨⟨by decide +kernel, by decide +kernel⟩, List.mem_of_getElem? (i := 925) (by decide +kernel), List.mem_of_getElem? (i := 1401) (by decide +kernel), List.mem_of_getElem? (i := 1402) (by decide +kernel)⟩
theorem lw_p119 : lw_okq (⟨"HandedVoicesModel", "plainGives", "(II)I"⟩, 52) := ⟨⟨by decide +kernel, by decide +kernel⟩, List.mem_of_getElem? (i := 925) (by decide +kernel), List.mem_of_getElem? (i := 1405) (by decide +kernel), List.mem_of_getElem? (i := 1406) (by decide +kernel)⟩
theorem lw_p120 : lw_okq (⟨"HandedVoicesModel", "holds", "(III)I"⟩, 52) := ⟨⟨by decide +kernel, by decide +kernel⟩, List.mem_of_getElem? (i := 925) (by decide +kernel), List.mem_of_getElem? (i := 1409) (by decide +kernel), List.mem_of_getElem? (i := 1410) (by decide +kernel)⟩
theorem lw_p121 : lw_okq (⟨"HandedVoicesModel", "giveHolds", "(III)I"⟩, 52) := ⟨⟨by decide +kernel, by decide +kernel⟩, List.mem_of_getElem? (i := 925) (by decide +kernel), List.mem_of_getElem? (i := 1413) (by decide +kernel), List.mem_of_getElem? (i := 1414) (by decide +kernel)⟩
theorem lw_p122 : lw_okq (⟨"HandedVoicesModel", "plainHolds", "(III)I"⟩, 52) := ⟨⟨by decide +kernel, by decide +kernel⟩, List.mem_of_getElem? (i := 925) (by decide +kernel), List.mem_of_getElem? (i := 1417) (by decide +kernel), List.mem_of_getElem? (i := 1418) (by decide +kernel)⟩
theorem lw_p123 : lw_okq (⟨"HandedVoicesModel", "tells", "(III)I"⟩, 52) := ⟨⟨by decide +kernel, by decide +kernel⟩, List.mem_of_getElem? (i := 925) (by decide +kernel), List.mem_of_getElem? (i := 1421) (by decide +kernel), List.mem_of_getElem? (i := 1422) (by decide +kernel)⟩
theorem lw_p124 : lw_okq (⟨"HandedVoicesModel", "plainTells", "(III)I"⟩, 52) := ⟨⟨by decide +kernel, by decide +kernel⟩, List.mem_of_getElem? (i := 925) (by decide +kernel), List.mem_of_getElem? (i := 1425) (by decide +kernel), List.mem_of_getElem? (i := 1426) (by decide +kernel)⟩
theorem lw_p125 : lw_okq (⟨"HandedVoicesModel", "narrow", "(IJ)J"⟩, 52) := ⟨⟨by decide +kernel, by decide +kernel⟩, List.mem_of_getElem? (i := 925) (by decide +kernel), List.mem_of_getElem? (i := 1449) (by decide +kernel), List.mem_of_getElem? (i := 1450) (by decide +kernel)⟩
def lw_privs_8 : List (MethodName × Nat) := [(⟨"HandedVoicesModel", "heapOf", "()J"⟩, 52), (⟨"HandedVoicesModel", "asSelf", "(II)V"⟩, 52), (⟨"HandedVoicesModel", "asBefore", "(I)V"⟩, 52), (⟨"HandedVoicesModel", "isTape", "(I)Z"⟩, 52), (⟨"HandedVoicesModel", "gives", "(III)I"⟩, 52), (⟨"HandedVoicesModel", "body", "(I)V"⟩, 52), (⟨"HandedVoicesModel", "giveGives", "(II)I"⟩, 52), (⟨"HandedVoicesModel", "plainGives", "(II)I"⟩, 52), (⟨"HandedVoicesModel", "holds", "(III)I"⟩, 52), (⟨"HandedVoicesModel", "giveHolds", "(III)I"⟩, 52), (⟨"HandedVoicesModel", "plainHolds", "(III)I"⟩, 52), (⟨"HandedVoicesModel", "tells", "(III)I"⟩, 52), (⟨"HandedVoicesModel", "plainTells", "(III)I"⟩, 52), (⟨"HandedVoicesModel", "narrow", "(IJ)J"⟩, 52)]
theorem lw_r8 : ∀ q ∈ lw_privs_8, lw_okq q := List.forall_mem_cons.mpr ⟨lw_p112, List.forall_mem_cons.mpr ⟨lw_p113, List.forall_mem_cons.mpr ⟨lw_p114, List.forall_mem_cons.mpr ⟨lw_p115, List.forall_mem_cons.mpr ⟨lw_p116, List.forall_mem_cons.mpr ⟨lw_p117, List.forall_mem_cons.mpr ⟨lw_p118, List.forall_mem_cons.mpr ⟨lw_p119, List.forall_mem_cons.mpr ⟨lw_p120, List.forall_mem_cons.mpr ⟨lw_p121, List.forall_mem_cons.mpr ⟨lw_p122, List.forall_mem_cons.mpr ⟨lw_p123, List.forall_mem_cons.mpr ⟨lw_p124, List.forall_mem_cons.mpr ⟨lw_p125, fun _ h => absurd h List.not_mem_nil⟩⟩⟩⟩⟩⟩⟩⟩⟩⟩⟩⟩⟩⟩
def lw_privs : List (MethodName × Nat) := lw_privs_1 ++ (lw_privs_2 ++ (lw_privs_3 ++ (lw_privs_4 ++ (lw_privs_5 ++ (lw_privs_6 ++ (lw_privs_7 ++ (lw_privs_8)))))))
def lw_tbl : List Cond := k2_sels lw_privs ++ tables_1
theorem lw_privs_ok : ∀ q ∈ lw_privs, lw_okq q := by
  show ∀ q ∈ lw_privs_1 ++ (lw_privs_2 ++ (lw_privs_3 ++ (lw_privs_4 ++ (lw_privs_5 ++ (lw_privs_6 ++ (lw_privs_7 ++ (lw_privs_8))))))), lw_okq q
  exact List.forall_mem_append.mpr ⟨lw_r1, List.forall_mem_append.mpr ⟨lw_r2, List.forall_mem_append.mpr ⟨lw_r3, List.forall_mem_append.mpr ⟨lw_r4, List.forall_mem_append.mpr ⟨lw_r5, List.forall_mem_append.mpr ⟨lw_r6, List.forall_mem_append.mpr ⟨lw_r7, lw_r8⟩⟩⟩⟩⟩⟩⟩
-- names, printed of the program
def RX0 : String := "HandedVoices$Acts"
def TX0 : u_T := fun k => match k with
  | 0 => ("HandedVoices$Acts", "numbers", "[I", true)
  | 1 => ("HandedVoices$Acts", "bodies", "I", false)
  | 2 => ("HandedVoices$Acts", "kind", "I", false)
  | 3 => ("HandedVoices$Acts", "seat", "I", false)
  | _ => ("HandedVoices$Acts", "topic", "I", false)
def tyX0 : Nat → FieldType := fun k => match k with
  | 0 => .array .int
  | 1 => .int
  | 2 => .int
  | 3 => .int
  | _ => .int
theorem nmX0 : ∀ a, a < 5 → ∀ b, b < 5 → a ≠ b → (TX0 a).2.1 ≠ (TX0 b).2.1 := by decide +kernel
theorem tyX0_ok : ∀ k, k < 5 → parseFieldDescriptor (TX0 k).2.2.1 = some (tyX0 k) := by decide +kernel
abbrev cX0_init : ByteArray := prog_2_method_1_code
def yX0_init : MethodName := ⟨RX0, "<init>", "()V"⟩
abbrev cX0_clear : ByteArray := prog_2_method_2_code
def yX0_clear : MethodName := ⟨RX0, "clear", "()V"⟩
abbrev cX0_kept : ByteArray := prog_2_method_3_code
def yX0_kept : MethodName := ⟨RX0, "kept", "()I"⟩
abbrev cX0_run : ByteArray := prog_2_method_4_code
def yX0_run : MethodName := ⟨RX0, "run", "(IIIII)I"⟩
abbrev cX0_begin : ByteArray := prog_2_method_5_code
def yX0_begin : MethodName := ⟨RX0, "begin", "(I)V"⟩
abbrev cX0_gives : ByteArray := prog_2_method_6_code
def yX0_gives : MethodName := ⟨RX0, "gives", "(I)I"⟩
abbrev cX0_holds : ByteArray := prog_2_method_7_code
def yX0_holds : MethodName := ⟨RX0, "holds", "(I)I"⟩
abbrev cX0_tells : ByteArray := prog_2_method_8_code
def yX0_tells : MethodName := ⟨RX0, "tells", "(I)I"⟩
abbrev cX0_tellsAsHand : ByteArray := prog_2_method_9_code
def yX0_tellsAsHand : MethodName := ⟨RX0, "tellsAsHand", "(I)I"⟩
def RX1 : String := "HandedVoices$HallText"
def TX1 : u_T := fun k => match k with
  | 0 => ("HandedVoices$HallText", "bytes", "[I", true)
  | 1 => ("HandedVoices$HallText", "size", "I", false)
  | 2 => ("HandedVoices$HallText", "place", "I", false)
  | 3 => ("HandedVoices$HallText", "number", "I", false)
  | 4 => ("HandedVoices$HallText", "figures", "I", false)
  | _ => ("HandedVoices$HallText", "draft", "LHandedVoices$Rules;", false)
def tyX1 : Nat → FieldType := fun k => match k with
  | 0 => .array .int
  | 1 => .int
  | 2 => .int
  | 3 => .int
  | 4 => .int
  | _ => .object "HandedVoices$Rules"
theorem nmX1 : ∀ a, a < 6 → ∀ b, b < 6 → a ≠ b → (TX1 a).2.1 ≠ (TX1 b).2.1 := by decide +kernel
theorem tyX1_ok : ∀ k, k < 6 → parseFieldDescriptor (TX1 k).2.2.1 = some (tyX1 k) := by decide +kernel
abbrev cX1_init : ByteArray := prog_3_method_1_code
def yX1_init : MethodName := ⟨RX1, "<init>", "()V"⟩
abbrev cX1_append : ByteArray := prog_3_method_2_code
def yX1_append : MethodName := ⟨RX1, "append", "(I)V"⟩
abbrev cX1_fault : ByteArray := prog_3_method_3_code
def yX1_fault : MethodName := ⟨RX1, "fault", "()I"⟩
abbrev cX1_seen : ByteArray := prog_3_method_4_code
def yX1_seen : MethodName := ⟨RX1, "seen", "()I"⟩
abbrev cX1_clause : ByteArray := prog_3_method_5_code
def yX1_clause : MethodName := ⟨RX1, "clause", "()Z"⟩
abbrev cX1_word : ByteArray := prog_3_method_6_code
def yX1_word : MethodName := ⟨RX1, "word", "(Ljava/lang/String;)Z"⟩
abbrev cX1_need : ByteArray := prog_3_method_7_code
def yX1_need : MethodName := ⟨RX1, "need", "()Z"⟩
abbrev cX1_ring : ByteArray := prog_3_method_8_code
def yX1_ring : MethodName := ⟨RX1, "ring", "()Z"⟩
abbrev cX1_figuresOf : ByteArray := prog_3_method_9_code
def yX1_figuresOf : MethodName := ⟨RX1, "figuresOf", "()Z"⟩
abbrev cX1_either : ByteArray := prog_3_method_10_code
def yX1_either : MethodName := ⟨RX1, "either", "(I)Z"⟩
abbrev cX1_single : ByteArray := prog_3_method_11_code
def yX1_single : MethodName := ⟨RX1, "single", "(I)Z"⟩
abbrev cX1_test : ByteArray := prog_3_method_12_code
def yX1_test : MethodName := ⟨RX1, "test", "()Z"⟩
abbrev cX1_signOf : ByteArray := prog_3_method_13_code
def yX1_signOf : MethodName := ⟨RX1, "signOf", "(Ljava/lang/String;)I"⟩
def RX2 : String := "HandedVoices$Hands"
def TX2 : u_T := fun k => match k with
  | 0 => ("HandedVoices$Hands", "yes", "[I", true)
  | 1 => ("HandedVoices$Hands", "sure", "[I", true)
  | 2 => ("HandedVoices$Hands", "kind", "[I", true)
  | 3 => ("HandedVoices$Hands", "until", "[I", true)
  | 4 => ("HandedVoices$Hands", "first", "[I", true)
  | 5 => ("HandedVoices$Hands", "second", "[I", true)
  | 6 => ("HandedVoices$Hands", "tenths", "[I", true)
  | 7 => ("HandedVoices$Hands", "members", "I", false)
  | _ => ("HandedVoices$Hands", "now", "I", false)
def tyX2 : Nat → FieldType := fun k => match k with
  | 0 => .array .int
  | 1 => .array .int
  | 2 => .array .int
  | 3 => .array .int
  | 4 => .array .int
  | 5 => .array .int
  | 6 => .array .int
  | 7 => .int
  | _ => .int
theorem nmX2 : ∀ a, a < 9 → ∀ b, b < 9 → a ≠ b → (TX2 a).2.1 ≠ (TX2 b).2.1 := by decide +kernel
theorem tyX2_ok : ∀ k, k < 9 → parseFieldDescriptor (TX2 k).2.2.1 = some (tyX2 k) := by decide +kernel
abbrev cX2_init : ByteArray := prog_4_method_1_code
def yX2_init : MethodName := ⟨RX2, "<init>", "()V"⟩
abbrev cX2_sits : ByteArray := prog_4_method_2_code
def yX2_sits : MethodName := ⟨RX2, "sits", "(I)Z"⟩
abbrev cX2_opinion : ByteArray := prog_4_method_3_code
def yX2_opinion : MethodName := ⟨RX2, "opinion", "(II)I"⟩
abbrev cX2_form : ByteArray := prog_4_method_4_code
def yX2_form : MethodName := ⟨RX2, "form", "(IIZI)V"⟩
abbrev cX2_renew : ByteArray := prog_4_method_5_code
def yX2_renew : MethodName := ⟨RX2, "renew", "(IIIII)I"⟩
abbrev cX2_isSelf : ByteArray := prog_4_method_6_code
def yX2_isSelf : MethodName := ⟨RX2, "isSelf", "(II)Z"⟩
abbrev cX2_surestOf : ByteArray := prog_4_method_7_code
def yX2_surestOf : MethodName := ⟨RX2, "surestOf", "(II)I"⟩
abbrev cX2_takenBackAt : ByteArray := prog_4_method_8_code
def yX2_takenBackAt : MethodName := ⟨RX2, "takenBackAt", "(II)I"⟩
def RX3 : String := "HandedVoices$Law"
def TX3 : u_T := fun k => match k with
  | 0 => ("HandedVoices$Law", "hands", "LHandedVoices$Hands;", true)
  | 1 => ("HandedVoices$Law", "masks", "[I", true)
  | 2 => ("HandedVoices$Law", "facts", "[I", true)
  | 3 => ("HandedVoices$Law", "ruling", "LHandedVoices$Rules;", false)
  | _ => ("HandedVoices$Law", "halls", "I", false)
def tyX3 : Nat → FieldType := fun k => match k with
  | 0 => .object "HandedVoices$Hands"
  | 1 => .array .int
  | 2 => .array .int
  | 3 => .object "HandedVoices$Rules"
  | _ => .int
theorem nmX3 : ∀ a, a < 5 → ∀ b, b < 5 → a ≠ b → (TX3 a).2.1 ≠ (TX3 b).2.1 := by decide +kernel
theorem tyX3_ok : ∀ k, k < 5 → parseFieldDescriptor (TX3 k).2.2.1 = some (tyX3 k) := by decide +kernel
abbrev cX3_init : ByteArray := prog_5_method_1_code
def yX3_init : MethodName := ⟨RX3, "<init>", "(LHandedVoices$Hands;)V"⟩
abbrev cX3_adopt : ByteArray := prog_5_method_2_code
def yX3_adopt : MethodName := ⟨RX3, "adopt", "(LHandedVoices$Rules;)LHandedVoices$Rules;"⟩
abbrev cX3_learn : ByteArray := prog_5_method_3_code
def yX3_learn : MethodName := ⟨RX3, "learn", "(I)V"⟩
abbrev cX3_bars : ByteArray := prog_5_method_4_code
def yX3_bars : MethodName := ⟨RX3, "bars", "(III)Z"⟩
abbrev cX3_maskOf : ByteArray := prog_5_method_5_code
def yX3_maskOf : MethodName := ⟨RX3, "maskOf", "(II)I"⟩
def RX4 : String := "HandedVoices$Rules"
def TX4 : u_T := fun k => match k with
  | 0 => ("HandedVoices$Rules", "steps", "[I", true)
  | 1 => ("HandedVoices$Rules", "length", "I", false)
  | 2 => ("HandedVoices$Rules", "cap", "I", false)
  | 3 => ("HandedVoices$Rules", "above", "I", false)
  | 4 => ("HandedVoices$Rules", "below", "I", false)
  | _ => ("HandedVoices$Rules", "ringBest", "Z", false)
def tyX4 : Nat → FieldType := fun k => match k with
  | 0 => .array .int
  | 1 => .int
  | 2 => .int
  | 3 => .int
  | 4 => .int
  | _ => .boolean
theorem nmX4 : ∀ a, a < 6 → ∀ b, b < 6 → a ≠ b → (TX4 a).2.1 ≠ (TX4 b).2.1 := by decide +kernel
theorem tyX4_ok : ∀ k, k < 6 → parseFieldDescriptor (TX4 k).2.2.1 = some (tyX4 k) := by decide +kernel
abbrev cX4_init : ByteArray := prog_6_method_1_code
def yX4_init : MethodName := ⟨RX4, "<init>", "()V"⟩
abbrev cX4_clear : ByteArray := prog_6_method_2_code
def yX4_clear : MethodName := ⟨RX4, "clear", "()V"⟩
abbrev cX4_add : ByteArray := prog_6_method_3_code
def yX4_add : MethodName := ⟨RX4, "add", "(I)V"⟩
abbrev cX4_test : ByteArray := prog_6_method_4_code
def yX4_test : MethodName := ⟨RX4, "test", "(III)I"⟩
abbrev cX4_forbid : ByteArray := prog_6_method_5_code
def yX4_forbid : MethodName := ⟨RX4, "forbid", "([I)Z"⟩
abbrev cX4_isTrue : ByteArray := prog_6_method_6_code
def yX4_isTrue : MethodName := ⟨RX4, "isTrue", "(I[I)Z"⟩
def RX5 : String := "HandedVoices$Spread"
def TX5 : u_T := fun k => match k with
  | 0 => ("HandedVoices$Spread", "hands", "LHandedVoices$Hands;", true)
  | 1 => ("HandedVoices$Spread", "law", "LHandedVoices$Law;", true)
  | 2 => ("HandedVoices$Spread", "tenths", "[I", true)
  | 3 => ("HandedVoices$Spread", "onward", "[I", true)
  | 4 => ("HandedVoices$Spread", "speaking", "I", false)
  | 5 => ("HandedVoices$Spread", "orders", "I", false)
  | 6 => ("HandedVoices$Spread", "everyone", "I", false)
  | 7 => ("HandedVoices$Spread", "topic", "I", false)
  | 8 => ("HandedVoices$Spread", "base", "I", false)
  | 9 => ("HandedVoices$Spread", "ways", "I", false)
  | _ => ("HandedVoices$Spread", "bestWay", "I", false)
def tyX5 : Nat → FieldType := fun k => match k with
  | 0 => .object "HandedVoices$Hands"
  | 1 => .object "HandedVoices$Law"
  | 2 => .array .int
  | 3 => .array .int
  | 4 => .int
  | 5 => .int
  | 6 => .int
  | 7 => .int
  | 8 => .int
  | 9 => .int
  | _ => .int
theorem nmX5 : ∀ a, a < 11 → ∀ b, b < 11 → a ≠ b → (TX5 a).2.1 ≠ (TX5 b).2.1 := by decide +kernel
theorem tyX5_ok : ∀ k, k < 11 → parseFieldDescriptor (TX5 k).2.2.1 = some (tyX5 k) := by decide +kernel
abbrev cX5_init : ByteArray := prog_7_method_1_code
def yX5_init : MethodName := ⟨RX5, "<init>", "(LHandedVoices$Hands;LHandedVoices$Law;)V"⟩
abbrev cX5_lay : ByteArray := prog_7_method_2_code
def yX5_lay : MethodName := ⟨RX5, "lay", "(IIIII)V"⟩
abbrev cX5_layFirm : ByteArray := prog_7_method_3_code
def yX5_layFirm : MethodName := ⟨RX5, "layFirm", "(IIIII)V"⟩
abbrev cX5_layHand : ByteArray := prog_7_method_4_code
def yX5_layHand : MethodName := ⟨RX5, "layHand", "(II)V"⟩
abbrev cX5_layOrders : ByteArray := prog_7_method_5_code
def yX5_layOrders : MethodName := ⟨RX5, "layOrders", "()V"⟩
abbrev cX5_nameOf : ByteArray := prog_7_method_6_code
def yX5_nameOf : MethodName := ⟨RX5, "nameOf", "(II)I"⟩
abbrev cX5_send : ByteArray := prog_7_method_7_code
def yX5_send : MethodName := ⟨RX5, "send", "(III)V"⟩
abbrev cX5_stay : ByteArray := prog_7_method_8_code
def yX5_stay : MethodName := ⟨RX5, "stay", "(II)V"⟩
abbrev cX5_reaching : ByteArray := prog_7_method_9_code
def yX5_reaching : MethodName := ⟨RX5, "reaching", "()I"⟩
abbrev cX5_seekWays : ByteArray := prog_7_method_10_code
def yX5_seekWays : MethodName := ⟨RX5, "seekWays", "(Z)V"⟩
abbrev cX5_openNames : ByteArray := prog_7_method_11_code
def yX5_openNames : MethodName := ⟨RX5, "openNames", "([I)I"⟩
abbrev cX5_reachAll : ByteArray := prog_7_method_12_code
def yX5_reachAll : MethodName := ⟨RX5, "reachAll", "(I)Z"⟩
def RX6 : String := "HandedVoices$Tally"
def TX6 : u_T := fun k => match k with
  | 0 => ("HandedVoices$Tally", "hands", "LHandedVoices$Hands;", true)
  | 1 => ("HandedVoices$Tally", "law", "LHandedVoices$Law;", true)
  | 2 => ("HandedVoices$Tally", "spread", "LHandedVoices$Spread;", true)
  | 3 => ("HandedVoices$Tally", "heard", "[I", true)
  | 4 => ("HandedVoices$Tally", "rows", "[[J", true)
  | 5 => ("HandedVoices$Tally", "weights", "[J", true)
  | 6 => ("HandedVoices$Tally", "whole", "J", false)
  | 7 => ("HandedVoices$Tally", "sum", "J", false)
  | 8 => ("HandedVoices$Tally", "odds", "[J", true)
  | _ => ("HandedVoices$Tally", "sums", "[J", true)
def tyX6 : Nat → FieldType := fun k => match k with
  | 0 => .object "HandedVoices$Hands"
  | 1 => .object "HandedVoices$Law"
  | 2 => .object "HandedVoices$Spread"
  | 3 => .array .int
  | 4 => .array (.array .long)
  | 5 => .array .long
  | 6 => .long
  | 7 => .long
  | 8 => .array .long
  | _ => .array .long
theorem nmX6 : ∀ a, a < 10 → ∀ b, b < 10 → a ≠ b → (TX6 a).2.1 ≠ (TX6 b).2.1 := by decide +kernel
theorem tyX6_ok : ∀ k, k < 10 → parseFieldDescriptor (TX6 k).2.2.1 = some (tyX6 k) := by decide +kernel
abbrev cX6_init : ByteArray := prog_8_method_1_code
def yX6_init : MethodName := ⟨RX6, "<init>", "(LHandedVoices$Hands;LHandedVoices$Law;LHandedVoices$Spread;)V"⟩
abbrev cX6_reckonNow : ByteArray := prog_8_method_2_code
def yX6_reckonNow : MethodName := ⟨RX6, "reckonNow", "(I)V"⟩
abbrev cX6_reckon : ByteArray := prog_8_method_3_code
def yX6_reckon : MethodName := ⟨RX6, "reckon", "(IIIII)V"⟩
abbrev cX6_weigh : ByteArray := prog_8_method_4_code
def yX6_weigh : MethodName := ⟨RX6, "weigh", "()V"⟩
abbrev cX6_listHeard : ByteArray := prog_8_method_5_code
def yX6_listHeard : MethodName := ⟨RX6, "listHeard", "(I)I"⟩
abbrev cX6_fillRows : ByteArray := prog_8_method_6_code
def yX6_fillRows : MethodName := ⟨RX6, "fillRows", "(I)V"⟩
abbrev cX6_unroll : ByteArray := prog_8_method_7_code
def yX6_unroll : MethodName := ⟨RX6, "unroll", "(I)J"⟩
abbrev cX6_clear : ByteArray := prog_8_method_8_code
def yX6_clear : MethodName := ⟨RX6, "clear", "([J[JIIJ)V"⟩
abbrev cX6_sumOf : ByteArray := prog_8_method_9_code
def yX6_sumOf : MethodName := ⟨RX6, "sumOf", "(I)J"⟩
abbrev cX6_decides : ByteArray := prog_8_method_10_code
def yX6_decides : MethodName := ⟨RX6, "decides", "(J)Z"⟩
abbrev cX6_withVoices : ByteArray := prog_8_method_11_code
def yX6_withVoices : MethodName := ⟨RX6, "withVoices", "()I"⟩
abbrev cX6_highest : ByteArray := prog_8_method_12_code
def yX6_highest : MethodName := ⟨RX6, "highest", "()J"⟩
abbrev cX6_chanceIf : ByteArray := prog_8_method_13_code
def yX6_chanceIf : MethodName := ⟨RX6, "chanceIf", "(IIII)J"⟩
abbrev cX6_chance : ByteArray := prog_8_method_14_code
def yX6_chance : MethodName := ⟨RX6, "chance", "(I)J"⟩
abbrev cX6_fork : ByteArray := prog_8_method_15_code
def yX6_fork : MethodName := ⟨RX6, "fork", "(IJI)V"⟩
def RX7 : String := "HandedVoices$Tapes"
def TX7 : u_T := fun k => match k with
  | 0 => ("HandedVoices$Tapes", "sorts", "[I", true)
  | 1 => ("HandedVoices$Tapes", "sizes", "[I", true)
  | _ => ("HandedVoices$Tapes", "items", "[J", true)
def tyX7 : Nat → FieldType := fun k => match k with
  | 0 => .array .int
  | 1 => .array .int
  | _ => .array .long
theorem nmX7 : ∀ a, a < 3 → ∀ b, b < 3 → a ≠ b → (TX7 a).2.1 ≠ (TX7 b).2.1 := by decide +kernel
theorem tyX7_ok : ∀ k, k < 3 → parseFieldDescriptor (TX7 k).2.2.1 = some (tyX7 k) := by decide +kernel
abbrev cX7_init : ByteArray := prog_9_method_1_code
def yX7_init : MethodName := ⟨RX7, "<init>", "()V"⟩
abbrev cX7_exists : ByteArray := prog_9_method_2_code
def yX7_exists : MethodName := ⟨RX7, "exists", "(I)Z"⟩
abbrev cX7_reset : ByteArray := prog_9_method_3_code
def yX7_reset : MethodName := ⟨RX7, "reset", "(III)V"⟩
abbrev cX7_get : ByteArray := prog_9_method_4_code
def yX7_get : MethodName := ⟨RX7, "get", "(II)J"⟩
abbrev cX7_put : ByteArray := prog_9_method_5_code
def yX7_put : MethodName := ⟨RX7, "put", "(IIJ)V"⟩
abbrev cX7_narrow : ByteArray := prog_9_method_6_code
def yX7_narrow : MethodName := ⟨RX7, "narrow", "(IJ)J"⟩
abbrev cX7_holds : ByteArray := prog_9_method_7_code
def yX7_holds : MethodName := ⟨RX7, "holds", "(III)Z"⟩
abbrev cX7_copy : ByteArray := prog_9_method_8_code
def yX7_copy : MethodName := ⟨RX7, "copy", "(IIIII)V"⟩
def RX8 : String := "HandedVoices$Wishes"
def TX8 : u_T := fun k => match k with
  | 0 => ("HandedVoices$Wishes", "hands", "LHandedVoices$Hands;", true)
  | 1 => ("HandedVoices$Wishes", "law", "LHandedVoices$Law;", true)
  | 2 => ("HandedVoices$Wishes", "spread", "LHandedVoices$Spread;", true)
  | 3 => ("HandedVoices$Wishes", "tally", "LHandedVoices$Tally;", true)
  | _ => ("HandedVoices$Wishes", "weightsNow", "[J", true)
def tyX8 : Nat → FieldType := fun k => match k with
  | 0 => .object "HandedVoices$Hands"
  | 1 => .object "HandedVoices$Law"
  | 2 => .object "HandedVoices$Spread"
  | 3 => .object "HandedVoices$Tally"
  | _ => .array .long
theorem nmX8 : ∀ a, a < 5 → ∀ b, b < 5 → a ≠ b → (TX8 a).2.1 ≠ (TX8 b).2.1 := by decide +kernel
theorem tyX8_ok : ∀ k, k < 5 → parseFieldDescriptor (TX8 k).2.2.1 = some (tyX8 k) := by decide +kernel
abbrev cX8_init : ByteArray := prog_10_method_1_code
def yX8_init : MethodName := ⟨RX8, "<init>", "(LHandedVoices$Hands;LHandedVoices$Law;LHandedVoices$Spread;LHandedVoices$Tally;)V"⟩
abbrev cX8_firstBreach : ByteArray := prog_10_method_2_code
def yX8_firstBreach : MethodName := ⟨RX8, "firstBreach", "(I)I"⟩
abbrev cX8_firstWish : ByteArray := prog_10_method_3_code
def yX8_firstWish : MethodName := ⟨RX8, "firstWish", "(I)I"⟩
abbrev cX8_bestMending : ByteArray := prog_10_method_4_code
def yX8_bestMending : MethodName := ⟨RX8, "bestMending", "(III)I"⟩
abbrev cX8_movers : ByteArray := prog_10_method_5_code
def yX8_movers : MethodName := ⟨RX8, "movers", "(I)I"⟩
abbrev cX8_lastOtherwise : ByteArray := prog_10_method_6_code
def yX8_lastOtherwise : MethodName := ⟨RX8, "lastOtherwise", "(I)I"⟩
abbrev cX8_decidedAt : ByteArray := prog_10_method_7_code
def yX8_decidedAt : MethodName := ⟨RX8, "decidedAt", "(II)Z"⟩
abbrev cX8_fewestToWin : ByteArray := prog_10_method_8_code
def yX8_fewestToWin : MethodName := ⟨RX8, "fewestToWin", "(I)I"⟩
def RX9 : String := "HandedVoices"
def TX9 : u_T := fun k => match k with
  | 0 => ("HandedVoices", "hands", "LHandedVoices$Hands;", true)
  | 1 => ("HandedVoices", "text", "LHandedVoices$HallText;", true)
  | 2 => ("HandedVoices", "law", "LHandedVoices$Law;", true)
  | 3 => ("HandedVoices", "spread", "LHandedVoices$Spread;", true)
  | 4 => ("HandedVoices", "tally", "LHandedVoices$Tally;", true)
  | 5 => ("HandedVoices", "wishes", "LHandedVoices$Wishes;", true)
  | 6 => ("HandedVoices", "acts", "LHandedVoices$Acts;", true)
  | _ => ("HandedVoices", "tapes", "LHandedVoices$Tapes;", true)
def tyX9 : Nat → FieldType := fun k => match k with
  | 0 => .object "HandedVoices$Hands"
  | 1 => .object "HandedVoices$HallText"
  | 2 => .object "HandedVoices$Law"
  | 3 => .object "HandedVoices$Spread"
  | 4 => .object "HandedVoices$Tally"
  | 5 => .object "HandedVoices$Wishes"
  | 6 => .object "HandedVoices$Acts"
  | _ => .object "HandedVoices$Tapes"
theorem nmX9 : ∀ a, a < 8 → ∀ b, b < 8 → a ≠ b → (TX9 a).2.1 ≠ (TX9 b).2.1 := by decide +kernel
theorem tyX9_ok : ∀ k, k < 8 → parseFieldDescriptor (TX9 k).2.2.1 = some (tyX9 k) := by decide +kernel
abbrev cX9_init : ByteArray := prog_1_method_1_code
def yX9_init : MethodName := ⟨RX9, "<init>", "()V"⟩
abbrev cX9_member : ByteArray := prog_1_method_2_code
def yX9_member : MethodName := ⟨RX9, "member", "()I"⟩
abbrev cX9_think : ByteArray := prog_1_method_3_code
def yX9_think : MethodName := ⟨RX9, "think", "(IIZI)I"⟩
abbrev cX9_hand : ByteArray := prog_1_method_4_code
def yX9_hand : MethodName := ⟨RX9, "hand", "(III)I"⟩
abbrev cX9_give : ByteArray := prog_1_method_5_code
def yX9_give : MethodName := ⟨RX9, "give", "(III)I"⟩
abbrev cX9_names : ByteArray := prog_1_method_6_code
def yX9_names : MethodName := ⟨RX9, "names", "(IIIII)I"⟩
abbrev cX9_back : ByteArray := prog_1_method_7_code
def yX9_back : MethodName := ⟨RX9, "back", "(III)I"⟩
abbrev cX9_pass : ByteArray := prog_1_method_8_code
def yX9_pass : MethodName := ⟨RX9, "pass", "(I)I"⟩
abbrev cX9_of : ByteArray := prog_1_method_9_code
def yX9_of : MethodName := ⟨RX9, "of", "(III)I"⟩
abbrev cX9_feed : ByteArray := prog_1_method_10_code
def yX9_feed : MethodName := ⟨RX9, "feed", "(II)I"⟩
abbrev cX9_hall : ByteArray := prog_1_method_11_code
def yX9_hall : MethodName := ⟨RX9, "hall", "()I"⟩
abbrev cX9_barred : ByteArray := prog_1_method_12_code
def yX9_barred : MethodName := ⟨RX9, "barred", "(III)I"⟩
abbrev cX9_share : ByteArray := prog_1_method_13_code
def yX9_share : MethodName := ⟨RX9, "share", "(III)I"⟩
abbrev cX9_voices : ByteArray := prog_1_method_14_code
def yX9_voices : MethodName := ⟨RX9, "voices", "(III)J"⟩
abbrev cX9_lost : ByteArray := prog_1_method_15_code
def yX9_lost : MethodName := ⟨RX9, "lost", "(I)I"⟩
abbrev cX9_decided : ByteArray := prog_1_method_16_code
def yX9_decided : MethodName := ⟨RX9, "decided", "(I)I"⟩
abbrev cX9_turning : ByteArray := prog_1_method_17_code
def yX9_turning : MethodName := ⟨RX9, "turning", "(I)I"⟩
abbrev cX9_power : ByteArray := prog_1_method_18_code
def yX9_power : MethodName := ⟨RX9, "power", "(II)I"⟩
abbrev cX9_few : ByteArray := prog_1_method_19_code
def yX9_few : MethodName := ⟨RX9, "few", "(I)I"⟩
abbrev cX9_best : ByteArray := prog_1_method_20_code
def yX9_best : MethodName := ⟨RX9, "best", "(II)I"⟩
abbrev cX9_right : ByteArray := prog_1_method_21_code
def yX9_right : MethodName := ⟨RX9, "right", "(III)J"⟩
abbrev cX9_surest : ByteArray := prog_1_method_22_code
def yX9_surest : MethodName := ⟨RX9, "surest", "(I)I"⟩
abbrev cX9_breach : ByteArray := prog_1_method_23_code
def yX9_breach : MethodName := ⟨RX9, "breach", "(I)I"⟩
abbrev cX9_rather : ByteArray := prog_1_method_24_code
def yX9_rather : MethodName := ⟨RX9, "rather", "(I)I"⟩
abbrev cX9_settle : ByteArray := prog_1_method_25_code
def yX9_settle : MethodName := ⟨RX9, "settle", "(I)I"⟩
abbrev cX9_heap : ByteArray := prog_1_method_26_code
def yX9_heap : MethodName := ⟨RX9, "heap", "(II)J"⟩
abbrev cX9_mend : ByteArray := prog_1_method_27_code
def yX9_mend : MethodName := ⟨RX9, "mend", "(III)I"⟩
abbrev cX9_late : ByteArray := prog_1_method_28_code
def yX9_late : MethodName := ⟨RX9, "late", "(I)I"⟩
abbrev cX9_fewest : ByteArray := prog_1_method_29_code
def yX9_fewest : MethodName := ⟨RX9, "fewest", "(I)I"⟩
abbrev cX9_table : ByteArray := prog_1_method_30_code
def yX9_table : MethodName := ⟨RX9, "table", "(III)I"⟩
abbrev cX9_act : ByteArray := prog_1_method_31_code
def yX9_act : MethodName := ⟨RX9, "act", "(IIII)I"⟩
abbrev cX9_trace : ByteArray := prog_1_method_32_code
def yX9_trace : MethodName := ⟨RX9, "trace", "(I)I"⟩
abbrev cX9_taken : ByteArray := prog_1_method_33_code
def yX9_taken : MethodName := ⟨RX9, "taken", "(III)I"⟩
abbrev cX9_count : ByteArray := prog_1_method_34_code
def yX9_count : MethodName := ⟨RX9, "count", "(I)I"⟩
abbrev cX9_tape : ByteArray := prog_1_method_35_code
def yX9_tape : MethodName := ⟨RX9, "tape", "(III)I"⟩
abbrev cX9_item : ByteArray := prog_1_method_36_code
def yX9_item : MethodName := ⟨RX9, "item", "(IIJ)I"⟩
abbrev cX9_read : ByteArray := prog_1_method_37_code
def yX9_read : MethodName := ⟨RX9, "read", "(II)J"⟩
abbrev cX9_shift : ByteArray := prog_1_method_38_code
def yX9_shift : MethodName := ⟨RX9, "shift", "(IIIII)I"⟩
abbrev cX9_isMatter : ByteArray := prog_1_method_39_code
def yX9_isMatter : MethodName := ⟨RX9, "isMatter", "(I)Z"⟩
abbrev cX9_isPart : ByteArray := prog_1_method_40_code
def yX9_isPart : MethodName := ⟨RX9, "isPart", "(I)Z"⟩
abbrev cX9_cell : ByteArray := prog_1_method_41_code
def yX9_cell : MethodName := ⟨RX9, "cell", "(II)I"⟩
abbrev cX9_lowest : ByteArray := prog_1_method_42_code
def yX9_lowest : MethodName := ⟨RX9, "lowest", "(JJI)J"⟩
abbrev cX9_commonDivisor : ByteArray := prog_1_method_43_code
def yX9_commonDivisor : MethodName := ⟨RX9, "commonDivisor", "(JJ)J"⟩
def RX10 : String := "HandedVoicesModel"
def TX10 : u_T := fun k => match k with
  | 0 => ("HandedVoicesModel", "members", "I", false)
  | 1 => ("HandedVoicesModel", "now", "I", false)
  | 2 => ("HandedVoicesModel", "kind", "[I", true)
  | 3 => ("HandedVoicesModel", "taken", "[I", true)
  | 4 => ("HandedVoicesModel", "first", "[I", true)
  | 5 => ("HandedVoicesModel", "second", "[I", true)
  | 6 => ("HandedVoicesModel", "tenths", "[I", true)
  | 7 => ("HandedVoicesModel", "sure", "[I", true)
  | 8 => ("HandedVoicesModel", "yes", "[Z", true)
  | 9 => ("HandedVoicesModel", "halls", "I", false)
  | 10 => ("HandedVoicesModel", "fed", "I", false)
  | 11 => ("HandedVoicesModel", "text", "[I", true)
  | 12 => ("HandedVoicesModel", "size", "[I", true)
  | 13 => ("HandedVoicesModel", "facts", "[I", true)
  | 14 => ("HandedVoicesModel", "base", "I", false)
  | 15 => ("HandedVoicesModel", "many", "I", false)
  | 16 => ("HandedVoicesModel", "at", "I", false)
  | 17 => ("HandedVoicesModel", "digits", "I", false)
  | 18 => ("HandedVoicesModel", "bars", "Z", false)
  | 19 => ("HandedVoicesModel", "cap", "I", false)
  | 20 => ("HandedVoicesModel", "needN", "I", false)
  | 21 => ("HandedVoicesModel", "needD", "I", false)
  | 22 => ("HandedVoicesModel", "ring", "I", false)
  | 23 => ("HandedVoicesModel", "isBarred", "[Z", true)
  | 24 => ("HandedVoicesModel", "isBarKnown", "Z", false)
  | 25 => ("HandedVoicesModel", "waits", "[I", true)
  | 26 => ("HandedVoicesModel", "pile", "[Z", true)
  | 27 => ("HandedVoicesModel", "waiting", "I", false)
  | 28 => ("HandedVoicesModel", "piled", "I", false)
  | 29 => ("HandedVoicesModel", "open", "I", false)
  | 30 => ("HandedVoicesModel", "capTold", "I", false)
  | 31 => ("HandedVoicesModel", "needNTold", "I", false)
  | 32 => ("HandedVoicesModel", "needDTold", "I", false)
  | 33 => ("HandedVoicesModel", "ringTold", "I", false)
  | 34 => ("HandedVoicesModel", "goesTo", "[I", true)
  | 35 => ("HandedVoicesModel", "minute", "I", false)
  | 36 => ("HandedVoicesModel", "bestWay", "I", false)
  | 37 => ("HandedVoicesModel", "wayMany", "I", false)
  | 38 => ("HandedVoicesModel", "voice", "[J", true)
  | 39 => ("HandedVoicesModel", "row", "[J", true)
  | 40 => ("HandedVoicesModel", "line", "J", false)
  | 41 => ("HandedVoicesModel", "lost", "I", false)
  | 42 => ("HandedVoicesModel", "likely", "J", false)
  | 43 => ("HandedVoicesModel", "tens", "J", false)
  | 44 => ("HandedVoicesModel", "kept", "[I", true)
  | 45 => ("HandedVoicesModel", "takenWas", "[I", true)
  | 46 => ("HandedVoicesModel", "ran", "I", false)
  | 47 => ("HandedVoicesModel", "bodies", "[I", true)
  | 48 => ("HandedVoicesModel", "sort", "[I", true)
  | 49 => ("HandedVoicesModel", "length", "[I", true)
  | 50 => ("HandedVoicesModel", "item", "[J", true)
  | _ => ("HandedVoicesModel", "aside", "[J", true)
def tyX10 : Nat → FieldType := fun k => match k with
  | 0 => .int
  | 1 => .int
  | 2 => .array .int
  | 3 => .array .int
  | 4 => .array .int
  | 5 => .array .int
  | 6 => .array .int
  | 7 => .array .int
  | 8 => .array .boolean
  | 9 => .int
  | 10 => .int
  | 11 => .array .int
  | 12 => .array .int
  | 13 => .array .int
  | 14 => .int
  | 15 => .int
  | 16 => .int
  | 17 => .int
  | 18 => .boolean
  | 19 => .int
  | 20 => .int
  | 21 => .int
  | 22 => .int
  | 23 => .array .boolean
  | 24 => .boolean
  | 25 => .array .int
  | 26 => .array .boolean
  | 27 => .int
  | 28 => .int
  | 29 => .int
  | 30 => .int
  | 31 => .int
  | 32 => .int
  | 33 => .int
  | 34 => .array .int
  | 35 => .int
  | 36 => .int
  | 37 => .int
  | 38 => .array .long
  | 39 => .array .long
  | 40 => .long
  | 41 => .int
  | 42 => .long
  | 43 => .long
  | 44 => .array .int
  | 45 => .array .int
  | 46 => .int
  | 47 => .array .int
  | 48 => .array .int
  | 49 => .array .int
  | 50 => .array .long
  | _ => .array .long
theorem nmX10 : ∀ a, a < 52 → ∀ b, b < 52 → a ≠ b → (TX10 a).2.1 ≠ (TX10 b).2.1 := by decide +kernel
theorem tyX10_ok : ∀ k, k < 52 → parseFieldDescriptor (TX10 k).2.2.1 = some (tyX10 k) := by decide +kernel
abbrev cX10_init : ByteArray := prog_12_method_1_code
def yX10_init : MethodName := ⟨RX10, "<init>", "()V"⟩
abbrev cX10_in : ByteArray := prog_12_method_2_code
def yX10_in : MethodName := ⟨RX10, "in", "(III)Z"⟩
abbrev cX10_ones : ByteArray := prog_12_method_3_code
def yX10_ones : MethodName := ⟨RX10, "ones", "(I)I"⟩
abbrev cX10_has : ByteArray := prog_12_method_4_code
def yX10_has : MethodName := ⟨RX10, "has", "(II)Z"⟩
abbrev cX10_isMember : ByteArray := prog_12_method_5_code
def yX10_isMember : MethodName := ⟨RX10, "isMember", "(I)Z"⟩
abbrev cX10_isMatter : ByteArray := prog_12_method_6_code
def yX10_isMatter : MethodName := ⟨RX10, "isMatter", "(I)Z"⟩
abbrev cX10_member : ByteArray := prog_12_method_7_code
def yX10_member : MethodName := ⟨RX10, "member", "()I"⟩
abbrev cX10_put : ByteArray := prog_12_method_8_code
def yX10_put : MethodName := ⟨RX10, "put", "(IIIII)V"⟩
abbrev cX10_think : ByteArray := prog_12_method_9_code
def yX10_think : MethodName := ⟨RX10, "think", "(IIZI)I"⟩
abbrev cX10_hand : ByteArray := prog_12_method_10_code
def yX10_hand : MethodName := ⟨RX10, "hand", "(III)I"⟩
abbrev cX10_give : ByteArray := prog_12_method_11_code
def yX10_give : MethodName := ⟨RX10, "give", "(III)I"⟩
abbrev cX10_names : ByteArray := prog_12_method_12_code
def yX10_names : MethodName := ⟨RX10, "names", "(IIIII)I"⟩
abbrev cX10_back : ByteArray := prog_12_method_13_code
def yX10_back : MethodName := ⟨RX10, "back", "(III)I"⟩
abbrev cX10_pass : ByteArray := prog_12_method_14_code
def yX10_pass : MethodName := ⟨RX10, "pass", "(I)I"⟩
abbrev cX10_of : ByteArray := prog_12_method_15_code
def yX10_of : MethodName := ⟨RX10, "of", "(III)I"⟩
abbrev cX10_feed : ByteArray := prog_12_method_16_code
def yX10_feed : MethodName := ⟨RX10, "feed", "(II)I"⟩
abbrev cX10_next : ByteArray := prog_12_method_17_code
def yX10_next : MethodName := ⟨RX10, "next", "()I"⟩
abbrev cX10_isDigit : ByteArray := prog_12_method_18_code
def yX10_isDigit : MethodName := ⟨RX10, "isDigit", "()Z"⟩
abbrev cX10_takes : ByteArray := prog_12_method_19_code
def yX10_takes : MethodName := ⟨RX10, "takes", "(I)Z"⟩
abbrev cX10_takesWord : ByteArray := prog_12_method_20_code
def yX10_takesWord : MethodName := ⟨RX10, "takesWord", "(II)Z"⟩
abbrev cX10_takesNumber : ByteArray := prog_12_method_21_code
def yX10_takesNumber : MethodName := ⟨RX10, "takesNumber", "(Z)Z"⟩
abbrev cX10_push : ByteArray := prog_12_method_22_code
def yX10_push : MethodName := ⟨RX10, "push", "(Z)V"⟩
abbrev cX10_settleSigns : ByteArray := prog_12_method_23_code
def yX10_settleSigns : MethodName := ⟨RX10, "settleSigns", "(I)V"⟩
abbrev cX10_takesTest : ByteArray := prog_12_method_24_code
def yX10_takesTest : MethodName := ⟨RX10, "takesTest", "()Z"⟩
abbrev cX10_takesE : ByteArray := prog_12_method_25_code
def yX10_takesE : MethodName := ⟨RX10, "takesE", "()Z"⟩
abbrev cX10_takesNeed : ByteArray := prog_12_method_26_code
def yX10_takesNeed : MethodName := ⟨RX10, "takesNeed", "()Z"⟩
abbrev cX10_takesClause : ByteArray := prog_12_method_27_code
def yX10_takesClause : MethodName := ⟨RX10, "takesClause", "()Z"⟩
abbrev cX10_goes : ByteArray := prog_12_method_28_code
def yX10_goes : MethodName := ⟨RX10, "goes", "(I)Z"⟩
abbrev cX10_hall : ByteArray := prog_12_method_29_code
def yX10_hall : MethodName := ⟨RX10, "hall", "()I"⟩
abbrev cX10_isBar : ByteArray := prog_12_method_30_code
def yX10_isBar : MethodName := ⟨RX10, "isBar", "(III)Z"⟩
abbrev cX10_barred : ByteArray := prog_12_method_31_code
def yX10_barred : MethodName := ⟨RX10, "barred", "(III)I"⟩
abbrev cX10_isOrder : ByteArray := prog_12_method_32_code
def yX10_isOrder : MethodName := ⟨RX10, "isOrder", "(II)Z"⟩
abbrev cX10_surestOf : ByteArray := prog_12_method_33_code
def yX10_surestOf : MethodName := ⟨RX10, "surestOf", "(II)I"⟩
abbrev cX10_hands : ByteArray := prog_12_method_34_code
def yX10_hands : MethodName := ⟨RX10, "hands", "(IIII)V"⟩
abbrev cX10_findHand : ByteArray := prog_12_method_35_code
def yX10_findHand : MethodName := ⟨RX10, "findHand", "(II)V"⟩
abbrev cX10_lostNow : ByteArray := prog_12_method_36_code
def yX10_lostNow : MethodName := ⟨RX10, "lostNow", "()I"⟩
abbrev cX10_putOrders : ByteArray := prog_12_method_37_code
def yX10_putOrders : MethodName := ⟨RX10, "putOrders", "(II)Z"⟩
abbrev cX10_findBest : ByteArray := prog_12_method_38_code
def yX10_findBest : MethodName := ⟨RX10, "findBest", "(I)V"⟩
abbrev cX10_findHands : ByteArray := prog_12_method_39_code
def yX10_findHands : MethodName := ⟨RX10, "findHands", "(II)V"⟩
abbrev cX10_findAll : ByteArray := prog_12_method_40_code
def yX10_findAll : MethodName := ⟨RX10, "findAll", "(II)V"⟩
abbrev cX10_share : ByteArray := prog_12_method_41_code
def yX10_share : MethodName := ⟨RX10, "share", "(III)I"⟩
abbrev cX10_unroll : ByteArray := prog_12_method_42_code
def yX10_unroll : MethodName := ⟨RX10, "unroll", "()V"⟩
abbrev cX10_findVoices : ByteArray := prog_12_method_43_code
def yX10_findVoices : MethodName := ⟨RX10, "findVoices", "(II)V"⟩
abbrev cX10_divisor : ByteArray := prog_12_method_44_code
def yX10_divisor : MethodName := ⟨RX10, "divisor", "(JJ)J"⟩
abbrev cX10_part : ByteArray := prog_12_method_45_code
def yX10_part : MethodName := ⟨RX10, "part", "(JJI)J"⟩
abbrev cX10_voices : ByteArray := prog_12_method_46_code
def yX10_voices : MethodName := ⟨RX10, "voices", "(III)J"⟩
abbrev cX10_lost : ByteArray := prog_12_method_47_code
def yX10_lost : MethodName := ⟨RX10, "lost", "(I)I"⟩
abbrev cX10_thinks : ByteArray := prog_12_method_48_code
def yX10_thinks : MethodName := ⟨RX10, "thinks", "(I)I"⟩
abbrev cX10_decides : ByteArray := prog_12_method_49_code
def yX10_decides : MethodName := ⟨RX10, "decides", "(I)Z"⟩
abbrev cX10_decided : ByteArray := prog_12_method_50_code
def yX10_decided : MethodName := ⟨RX10, "decided", "(I)I"⟩
abbrev cX10_turning : ByteArray := prog_12_method_51_code
def yX10_turning : MethodName := ⟨RX10, "turning", "(I)I"⟩
abbrev cX10_speaking : ByteArray := prog_12_method_52_code
def yX10_speaking : MethodName := ⟨RX10, "speaking", "()I"⟩
abbrev cX10_power : ByteArray := prog_12_method_53_code
def yX10_power : MethodName := ⟨RX10, "power", "(II)I"⟩
abbrev cX10_few : ByteArray := prog_12_method_54_code
def yX10_few : MethodName := ⟨RX10, "few", "(I)I"⟩
abbrev cX10_best : ByteArray := prog_12_method_55_code
def yX10_best : MethodName := ⟨RX10, "best", "(II)I"⟩
abbrev cX10_findRight : ByteArray := prog_12_method_56_code
def yX10_findRight : MethodName := ⟨RX10, "findRight", "(I)V"⟩
abbrev cX10_findAlone : ByteArray := prog_12_method_57_code
def yX10_findAlone : MethodName := ⟨RX10, "findAlone", "()V"⟩
abbrev cX10_right : ByteArray := prog_12_method_58_code
def yX10_right : MethodName := ⟨RX10, "right", "(III)J"⟩
abbrev cX10_surest : ByteArray := prog_12_method_59_code
def yX10_surest : MethodName := ⟨RX10, "surest", "(I)I"⟩
abbrev cX10_keep : ByteArray := prog_12_method_60_code
def yX10_keep : MethodName := ⟨RX10, "keep", "(II)V"⟩
abbrev cX10_putBack : ByteArray := prog_12_method_61_code
def yX10_putBack : MethodName := ⟨RX10, "putBack", "(II)V"⟩
abbrev cX10_breach : ByteArray := prog_12_method_62_code
def yX10_breach : MethodName := ⟨RX10, "breach", "(I)I"⟩
abbrev cX10_isLess : ByteArray := prog_12_method_63_code
def yX10_isLess : MethodName := ⟨RX10, "isLess", "(JJJJ)Z"⟩
abbrev cX10_ratherOf : ByteArray := prog_12_method_64_code
def yX10_ratherOf : MethodName := ⟨RX10, "ratherOf", "(I)I"⟩
abbrev cX10_rather : ByteArray := prog_12_method_65_code
def yX10_rather : MethodName := ⟨RX10, "rather", "(I)I"⟩
abbrev cX10_settle : ByteArray := prog_12_method_66_code
def yX10_settle : MethodName := ⟨RX10, "settle", "(I)I"⟩
abbrev cX10_heapOf : ByteArray := prog_12_method_67_code
def yX10_heapOf : MethodName := ⟨RX10, "heapOf", "()J"⟩
abbrev cX10_heap : ByteArray := prog_12_method_68_code
def yX10_heap : MethodName := ⟨RX10, "heap", "(II)J"⟩
abbrev cX10_asSelf : ByteArray := prog_12_method_69_code
def yX10_asSelf : MethodName := ⟨RX10, "asSelf", "(II)V"⟩
abbrev cX10_asBefore : ByteArray := prog_12_method_70_code
def yX10_asBefore : MethodName := ⟨RX10, "asBefore", "(I)V"⟩
abbrev cX10_mend : ByteArray := prog_12_method_71_code
def yX10_mend : MethodName := ⟨RX10, "mend", "(III)I"⟩
abbrev cX10_late : ByteArray := prog_12_method_72_code
def yX10_late : MethodName := ⟨RX10, "late", "(I)I"⟩
abbrev cX10_fewest : ByteArray := prog_12_method_73_code
def yX10_fewest : MethodName := ⟨RX10, "fewest", "(I)I"⟩
abbrev cX10_table : ByteArray := prog_12_method_74_code
def yX10_table : MethodName := ⟨RX10, "table", "(III)I"⟩
abbrev cX10_body : ByteArray := prog_12_method_75_code
def yX10_body : MethodName := ⟨RX10, "body", "(I)V"⟩
abbrev cX10_plainGives : ByteArray := prog_12_method_76_code
def yX10_plainGives : MethodName := ⟨RX10, "plainGives", "(II)I"⟩
abbrev cX10_giveGives : ByteArray := prog_12_method_77_code
def yX10_giveGives : MethodName := ⟨RX10, "giveGives", "(II)I"⟩
abbrev cX10_gives : ByteArray := prog_12_method_78_code
def yX10_gives : MethodName := ⟨RX10, "gives", "(III)I"⟩
abbrev cX10_plainHolds : ByteArray := prog_12_method_79_code
def yX10_plainHolds : MethodName := ⟨RX10, "plainHolds", "(III)I"⟩
abbrev cX10_giveHolds : ByteArray := prog_12_method_80_code
def yX10_giveHolds : MethodName := ⟨RX10, "giveHolds", "(III)I"⟩
abbrev cX10_holds : ByteArray := prog_12_method_81_code
def yX10_holds : MethodName := ⟨RX10, "holds", "(III)I"⟩
abbrev cX10_plainTells : ByteArray := prog_12_method_82_code
def yX10_plainTells : MethodName := ⟨RX10, "plainTells", "(III)I"⟩
abbrev cX10_tells : ByteArray := prog_12_method_83_code
def yX10_tells : MethodName := ⟨RX10, "tells", "(III)I"⟩
abbrev cX10_act : ByteArray := prog_12_method_84_code
def yX10_act : MethodName := ⟨RX10, "act", "(IIII)I"⟩
abbrev cX10_trace : ByteArray := prog_12_method_85_code
def yX10_trace : MethodName := ⟨RX10, "trace", "(I)I"⟩
abbrev cX10_taken : ByteArray := prog_12_method_86_code
def yX10_taken : MethodName := ⟨RX10, "taken", "(III)I"⟩
abbrev cX10_count : ByteArray := prog_12_method_87_code
def yX10_count : MethodName := ⟨RX10, "count", "(I)I"⟩
abbrev cX10_isTape : ByteArray := prog_12_method_88_code
def yX10_isTape : MethodName := ⟨RX10, "isTape", "(I)Z"⟩
abbrev cX10_tape : ByteArray := prog_12_method_89_code
def yX10_tape : MethodName := ⟨RX10, "tape", "(III)I"⟩
abbrev cX10_narrow : ByteArray := prog_12_method_90_code
def yX10_narrow : MethodName := ⟨RX10, "narrow", "(IJ)J"⟩
abbrev cX10_item : ByteArray := prog_12_method_91_code
def yX10_item : MethodName := ⟨RX10, "item", "(IIJ)I"⟩
abbrev cX10_read : ByteArray := prog_12_method_92_code
def yX10_read : MethodName := ⟨RX10, "read", "(II)J"⟩
abbrev cX10_shift : ByteArray := prog_12_method_93_code
def yX10_shift : MethodName := ⟨RX10, "shift", "(IIIII)I"⟩
def RJx145de : String := "java/io/Serializable"
def TJx145de : u_T := fun k => match k with
  | _ => ("", "", "", false)
def tyJx145de : Nat → FieldType := fun k => match k with
  | _ => .int
theorem nmJx145de : ∀ a, a < 0 → ∀ b, b < 0 → a ≠ b → (TJx145de a).2.1 ≠ (TJx145de b).2.1 := by decide +kernel
theorem tyJx145de_ok : ∀ k, k < 0 → parseFieldDescriptor (TJx145de k).2.2.1 = some (tyJx145de k) := by decide +kernel
def RJx9f9b0 : String := "java/lang/CharSequence"
def TJx9f9b0 : u_T := fun k => match k with
  | _ => ("", "", "", false)
def tyJx9f9b0 : Nat → FieldType := fun k => match k with
  | _ => .int
theorem nmJx9f9b0 : ∀ a, a < 0 → ∀ b, b < 0 → a ≠ b → (TJx9f9b0 a).2.1 ≠ (TJx9f9b0 b).2.1 := by decide +kernel
theorem tyJx9f9b0_ok : ∀ k, k < 0 → parseFieldDescriptor (TJx9f9b0 k).2.2.1 = some (tyJx9f9b0 k) := by decide +kernel
def RJxb160c : String := "java/lang/Comparable"
def TJxb160c : u_T := fun k => match k with
  | _ => ("", "", "", false)
def tyJxb160c : Nat → FieldType := fun k => match k with
  | _ => .int
theorem nmJxb160c : ∀ a, a < 0 → ∀ b, b < 0 → a ≠ b → (TJxb160c a).2.1 ≠ (TJxb160c b).2.1 := by decide +kernel
theorem tyJxb160c_ok : ∀ k, k < 0 → parseFieldDescriptor (TJxb160c k).2.2.1 = some (tyJxb160c k) := by decide +kernel
def RJ6 : String := "java/lang/Integer"
def TJ6 : u_T := fun k => match k with
  | _ => ("", "", "", false)
def tyJ6 : Nat → FieldType := fun k => match k with
  | _ => .int
theorem nmJ6 : ∀ a, a < 0 → ∀ b, b < 0 → a ≠ b → (TJ6 a).2.1 ≠ (TJ6 b).2.1 := by decide +kernel
theorem tyJ6_ok : ∀ k, k < 0 → parseFieldDescriptor (TJ6 k).2.2.1 = some (tyJ6 k) := by decide +kernel
abbrev cJ6_bitCount_0f7a4 : ByteArray := prog_13_method_49_code
def yJ6_bitCount_0f7a4 : MethodName := ⟨RJ6, "bitCount", "(I)I"⟩
def RJ9 : String := "java/lang/Math"
def TJ9 : u_T := fun k => match k with
  | _ => ("", "", "", false)
def tyJ9 : Nat → FieldType := fun k => match k with
  | _ => .int
theorem nmJ9 : ∀ a, a < 0 → ∀ b, b < 0 → a ≠ b → (TJ9 a).2.1 ≠ (TJ9 b).2.1 := by decide +kernel
theorem tyJ9_ok : ∀ k, k < 0 → parseFieldDescriptor (TJ9 k).2.2.1 = some (tyJ9 k) := by decide +kernel
abbrev cJ9_max_f86c9 : ByteArray := prog_14_method_66_code
def yJ9_max_f86c9 : MethodName := ⟨RJ9, "max", "(JJ)J"⟩
abbrev cJ9_min_7cf53 : ByteArray := prog_14_method_69_code
def yJ9_min_7cf53 : MethodName := ⟨RJ9, "min", "(II)I"⟩
abbrev cJ9_min_f86c9 : ByteArray := prog_14_method_70_code
def yJ9_min_f86c9 : MethodName := ⟨RJ9, "min", "(JJ)J"⟩
def RJ0 : String := "java/lang/String"
def TJ0 : u_T := fun k => match k with
  | _ => ("", "", "", false)
def tyJ0 : Nat → FieldType := fun k => match k with
  | _ => .int
theorem nmJ0 : ∀ a, a < 0 → ∀ b, b < 0 → a ≠ b → (TJ0 a).2.1 ≠ (TJ0 b).2.1 := by decide +kernel
theorem tyJ0_ok : ∀ k, k < 0 → parseFieldDescriptor (TJ0 k).2.2.1 = some (tyJ0 k) := by decide +kernel
abbrev cJ0_length_8abf5 : ByteArray := prog_15_method_54_code
def yJ0_length_8abf5 : MethodName := ⟨RJ0, "length", "()I"⟩
abbrev cJ0_charAt_5068e : ByteArray := prog_15_method_56_code
def yJ0_charAt_5068e : MethodName := ⟨RJ0, "charAt", "(I)C"⟩
abbrev cJ0_coder_7d493 : ByteArray := prog_15_method_152_code
def yJ0_coder_7d493 : MethodName := ⟨RJ0, "coder", "()B"⟩
abbrev cJ0_isLatin1_aae02 : ByteArray := prog_15_method_154_code
def yJ0_isLatin1_aae02 : MethodName := ⟨RJ0, "isLatin1", "()Z"⟩
abbrev cJ0_checkIndex_df160 : ByteArray := prog_15_method_155_code
def yJ0_checkIndex_df160 : MethodName := ⟨RJ0, "checkIndex", "(II)V"⟩
def RJ1 : String := "java/lang/StringLatin1"
def TJ1 : u_T := fun k => match k with
  | _ => ("", "", "", false)
def tyJ1 : Nat → FieldType := fun k => match k with
  | _ => .int
theorem nmJ1 : ∀ a, a < 0 → ∀ b, b < 0 → a ≠ b → (TJ1 a).2.1 ≠ (TJ1 b).2.1 := by decide +kernel
theorem tyJ1_ok : ∀ k, k < 0 → parseFieldDescriptor (TJ1 k).2.2.1 = some (tyJ1 k) := by decide +kernel
abbrev cJ1_charAt_3b067 : ByteArray := prog_16_method_2_code
def yJ1_charAt_3b067 : MethodName := ⟨RJ1, "charAt", "([BI)C"⟩
def RJ2 : String := "java/lang/StringUTF16"
def TJ2 : u_T := fun k => match k with
  | _ => ("", "", "", false)
def tyJ2 : Nat → FieldType := fun k => match k with
  | _ => .int
theorem nmJ2 : ∀ a, a < 0 → ∀ b, b < 0 → a ≠ b → (TJ2 a).2.1 ≠ (TJ2 b).2.1 := by decide +kernel
theorem tyJ2_ok : ∀ k, k < 0 → parseFieldDescriptor (TJ2 k).2.2.1 = some (tyJ2 k) := by decide +kernel
abbrev cJ2_getChar_3b067 : ByteArray := prog_17_method_5_code
def yJ2_getChar_3b067 : MethodName := ⟨RJ2, "getChar", "([BI)C"⟩
abbrev cJ2_length_9d52b : ByteArray := prog_17_method_6_code
def yJ2_length_9d52b : MethodName := ⟨RJ2, "length", "([B)I"⟩
abbrev cJ2_charAt_3b067 : ByteArray := prog_17_method_83_code
def yJ2_charAt_3b067 : MethodName := ⟨RJ2, "charAt", "([BI)C"⟩
abbrev cJ2_checkIndex_2214a : ByteArray := prog_17_method_91_code
def yJ2_checkIndex_2214a : MethodName := ⟨RJ2, "checkIndex", "(I[B)V"⟩
def RJ10 : String := "java/lang/System"
def TJ10 : u_T := fun k => match k with
  | _ => ("", "", "", false)
def tyJ10 : Nat → FieldType := fun k => match k with
  | _ => .int
theorem nmJ10 : ∀ a, a < 0 → ∀ b, b < 0 → a ≠ b → (TJ10 a).2.1 ≠ (TJ10 b).2.1 := by decide +kernel
theorem tyJ10_ok : ∀ k, k < 0 → parseFieldDescriptor (TJ10 k).2.2.1 = some (tyJ10 k) := by decide +kernel
def RJxfd54e : String := "java/lang/constant/Constable"
def TJxfd54e : u_T := fun k => match k with
  | _ => ("", "", "", false)
def tyJxfd54e : Nat → FieldType := fun k => match k with
  | _ => .int
theorem nmJxfd54e : ∀ a, a < 0 → ∀ b, b < 0 → a ≠ b → (TJxfd54e a).2.1 ≠ (TJxfd54e b).2.1 := by decide +kernel
theorem tyJxfd54e_ok : ∀ k, k < 0 → parseFieldDescriptor (TJxfd54e k).2.2.1 = some (tyJxfd54e k) := by decide +kernel
def RJx3cf43 : String := "java/lang/constant/ConstantDesc"
def TJx3cf43 : u_T := fun k => match k with
  | _ => ("", "", "", false)
def tyJx3cf43 : Nat → FieldType := fun k => match k with
  | _ => .int
theorem nmJx3cf43 : ∀ a, a < 0 → ∀ b, b < 0 → a ≠ b → (TJx3cf43 a).2.1 ≠ (TJx3cf43 b).2.1 := by decide +kernel
theorem tyJx3cf43_ok : ∀ k, k < 0 → parseFieldDescriptor (TJx3cf43 k).2.2.1 = some (tyJx3cf43 k) := by decide +kernel
def RJ7 : String := "java/util/Arrays"
def TJ7 : u_T := fun k => match k with
  | _ => ("", "", "", false)
def tyJ7 : Nat → FieldType := fun k => match k with
  | _ => .int
theorem nmJ7 : ∀ a, a < 0 → ∀ b, b < 0 → a ≠ b → (TJ7 a).2.1 ≠ (TJ7 b).2.1 := by decide +kernel
theorem tyJ7_ok : ∀ k, k < 0 → parseFieldDescriptor (TJ7 k).2.2.1 = some (tyJ7 k) := by decide +kernel
abbrev cJ7_fill_d0a16 : ByteArray := prog_19_method_101_code
def yJ7_fill_d0a16 : MethodName := ⟨RJ7, "fill", "([JJ)V"⟩
abbrev cJ7_fill_53178 : ByteArray := prog_19_method_103_code
def yJ7_fill_53178 : MethodName := ⟨RJ7, "fill", "([II)V"⟩
def RJ3 : String := "jdk/internal/util/Preconditions"
def TJ3 : u_T := fun k => match k with
  | _ => ("", "", "", false)
def tyJ3 : Nat → FieldType := fun k => match k with
  | _ => .int
theorem nmJ3 : ∀ a, a < 0 → ∀ b, b < 0 → a ≠ b → (TJ3 a).2.1 ≠ (TJ3 b).2.1 := by decide +kernel
theorem tyJ3_ok : ∀ k, k < 0 → parseFieldDescriptor (TJ3 k).2.2.1 = some (tyJ3 k) := by decide +kernel
abbrev cJ3_checkIndex_8e157 : ByteArray := prog_20_method_11_code
def yJ3_checkIndex_8e157 : MethodName := ⟨RJ3, "checkIndex", "(IILjava/util/function/BiFunction;)I"⟩
def RL : String := "HandedVoicesLaw"
abbrev cL_law : ByteArray := code
def yL_law : MethodName := ⟨RL, "law", "([I)Z"⟩
abbrev vwCl : List vw_C := [(RX0, TX0, 5), (RX1, TX1, 6), (RX2, TX2, 9), (RX3, TX3, 5), (RX4, TX4, 6), (RX5, TX5, 11), (RX6, TX6, 10), (RX7, TX7, 3), (RX8, TX8, 5), (RX9, TX9, 8), (RX10, TX10, 52)]
